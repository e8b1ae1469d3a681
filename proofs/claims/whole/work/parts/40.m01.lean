section
variable {g : EG} {p : Program} {l : Launch} {e : Env} {s : State} {m : MethodId} {args : Array Value} {below : List Frame} {meth : Method} {c : Code} {A : Nat → Prop} {ad am ta : Nat → Nat} {Rr : va_W} {φ0 : Nat}
theorem dX12_thrown_0 : decode cX12_thrown 0 = .ok (.aload_n 0, 1) := by decide +kernel
theorem dX12_thrown_1 : decode cX12_thrown 1 = .ok (.getfield 253, 3) := by decide +kernel
theorem dX12_thrown_4 : decode cX12_thrown 4 = .ok (.ireturn, 1) := by decide +kernel
def f_M_thrown  (σ : CS) : Option (Int32 × CS) := some ((σ.1 0), σ)
set_option maxHeartbeats 4000000 in
set_option maxRecDepth 100000 in
theorem c_M_thrown {l : Launch} {g : EG} {am : Nat → Nat} {Rr : va_W} {σ σ' : CS} {r : Int32}   (h : f_M_thrown σ = some (r, σ')) : CmI l g yX12_thrown (.code yX12_thrown cX12_thrown 1 (some .int)) 0 0 am Rr σ [.ref (am 112)] r σ' := by
  refine Ct.of rfl (by decide) (Nat.le_of_ble_eq_true rfl) ?_
  intro p e s m args below meth c A C hr
  show NMI g p l e s m args below meth c A 0 0 1 am Rr (r, σ') σ [(0, .ref (am 112))] 0 []
  unfold f_M_thrown at h
  refine nw_aload_n C dX12_thrown_0 rfl 0 rfl ?_
  refine nw_get (v := .int (σ.1 0)) C in_X12 0 ml_O rfl 0 (by decide) tw_1573 rfl mf_0 dX12_thrown_1 ?_
  exact nm_iret C hr dX12_thrown_4 h
theorem dX12_bad_0 : decode cX12_bad 0 = .ok (.iload_n 1, 1) := by decide +kernel
theorem dX12_bad_1 : decode cX12_bad 1 = .ok (.ifCond .eq 8, 3) := by decide +kernel
theorem dX12_bad_4 : decode cX12_bad 4 = .ok (.aload_n 0, 1) := by decide +kernel
theorem dX12_bad_5 : decode cX12_bad 5 = .ok (.iload_n 2, 1) := by decide +kernel
theorem dX12_bad_6 : decode cX12_bad 6 = .ok (.putfield 253, 3) := by decide +kernel
theorem dX12_bad_9 : decode cX12_bad 9 = .ok (.iload_n 1, 1) := by decide +kernel
theorem dX12_bad_10 : decode cX12_bad 10 = .ok (.ireturn, 1) := by decide +kernel
def f_M_bad (p0 : Int32) (p1 : Int32) (σ : CS) : Option (Int32 × CS) := if p0 = 0 then grd (p0 = 0 ∨ p0 = 1) (some (p0, σ)) else grd (p0 = 0 ∨ p0 = 1) (some (p0, (sF σ 0 p1)))
set_option maxHeartbeats 4000000 in
set_option maxRecDepth 100000 in
theorem c_M_bad {l : Launch} {g : EG} {am : Nat → Nat} {Rr : va_W} {σ σ' : CS} {r : Int32} {p0 : Int32} {p1 : Int32}  (h : f_M_bad p0 p1 σ = some (r, σ')) : CmI l g yX12_bad (.code yX12_bad cX12_bad 3 (some .boolean)) 0 0 am Rr σ [.ref (am 112), .int p0, .int p1] r σ' := by
  refine Ct.of rfl (by decide) (Nat.le_of_ble_eq_true rfl) ?_
  intro p e s m args below meth c A C hr
  show NMI g p l e s m args below meth c A 0 0 3 am Rr (r, σ') σ [(0, .ref (am 112)), (1, .int p0), (2, .int p1)] 0 []
  unfold f_M_bad at h
  refine nw_iload_n C dX12_bad_0 rfl 1 rfl ?_
  refine nw_if_eq (tgt := 9) C dX12_bad_1 (by decide) h (fun _ h => ?_) (fun _ h => ?_)
  · refine nw_iload_n C dX12_bad_9 rfl 1 rfl ?_
    exact nm_zretg C hr dX12_bad_10 h
  · refine nw_aload_n C dX12_bad_4 rfl 0 rfl ?_
    refine nw_iload_n C dX12_bad_5 rfl 2 rfl ?_
    refine nw_put (ty := .int) C in_X12 0 ml_O rfl 0 (by decide) tyX12 tyX12_ok nmX12 tw_1573 rfl rfl (by decide +kernel) rfl rfl (Nat.le_of_ble_eq_true rfl) dX12_bad_6 ms_0 ?_
    refine nw_iload_n C dX12_bad_9 rfl 1 rfl ?_
    exact nm_zretg C hr dX12_bad_10 h
theorem dX12_in_0 : decode cX12_in 0 = .ok (.iload_n 0, 1) := by decide +kernel
theorem dX12_in_1 : decode cX12_in 1 = .ok (.iload_n 1, 1) := by decide +kernel
theorem dX12_in_2 : decode cX12_in 2 = .ok (.if_icmp .lt 12, 3) := by decide +kernel
theorem dX12_in_5 : decode cX12_in 5 = .ok (.iload_n 0, 1) := by decide +kernel
theorem dX12_in_6 : decode cX12_in 6 = .ok (.iload_n 2, 1) := by decide +kernel
theorem dX12_in_7 : decode cX12_in 7 = .ok (.if_icmp .gt 7, 3) := by decide +kernel
theorem dX12_in_10 : decode cX12_in 10 = .ok (.iconst 1, 1) := by decide +kernel
theorem dX12_in_11 : decode cX12_in 11 = .ok (.goto 4, 3) := by decide +kernel
theorem dX12_in_14 : decode cX12_in 14 = .ok (.iconst 0, 1) := by decide +kernel
theorem dX12_in_15 : decode cX12_in 15 = .ok (.ireturn, 1) := by decide +kernel
def f_M_in (p0 : Int32) (p1 : Int32) (p2 : Int32) (σ : CS) : Option (Int32 × CS) := if p0 < p1 then some (0, σ) else if p2 < p0 then some (0, σ) else some (1, σ)
set_option maxHeartbeats 4000000 in
set_option maxRecDepth 100000 in
theorem c_M_in {l : Launch} {g : EG} {am : Nat → Nat} {Rr : va_W} {σ σ' : CS} {r : Int32} {p0 : Int32} {p1 : Int32} {p2 : Int32}  (h : f_M_in p0 p1 p2 σ = some (r, σ')) : CmI l g yX12_in (.code yX12_in cX12_in 3 (some .boolean)) 0 0 am Rr σ [.int p0, .int p1, .int p2] r σ' := by
  refine Ct.of rfl (by decide) (Nat.le_of_ble_eq_true rfl) ?_
  intro p e s m args below meth c A C hr
  show NMI g p l e s m args below meth c A 0 0 3 am Rr (r, σ') σ [(0, .int p0), (1, .int p1), (2, .int p2)] 0 []
  unfold f_M_in at h
  refine nw_iload_n C dX12_in_0 rfl 0 rfl ?_
  refine nw_iload_n C dX12_in_1 rfl 1 rfl ?_
  refine nw_icmp_lt (tgt := 14) C dX12_in_2 (by decide) h (fun _ h => ?_) (fun _ h => ?_)
  · refine nw_iconst (v := 0) C dX12_in_14 (by decide) ?_
    exact nm_zret C hr (Or.inl rfl) dX12_in_15 h
  · refine nw_iload_n C dX12_in_5 rfl 0 rfl ?_
    refine nw_iload_n C dX12_in_6 rfl 2 rfl ?_
    refine nw_icmp_gt (tgt := 14) C dX12_in_7 (by decide) h (fun _ h => ?_) (fun _ h => ?_)
    · refine nw_iconst (v := 0) C dX12_in_14 (by decide) ?_
      exact nm_zret C hr (Or.inl rfl) dX12_in_15 h
    · refine nw_iconst (v := 1) C dX12_in_10 (by decide) ?_
      refine nw_goto (tgt := 15) C dX12_in_11 (by decide) ?_
      exact nm_zret C hr (Or.inr rfl) dX12_in_15 h
theorem dX12_isDay_0 : decode cX12_isDay 0 = .ok (.iload_n 0, 1) := by decide +kernel
theorem dX12_isDay_1 : decode cX12_isDay 1 = .ok (.iconst 0, 1) := by decide +kernel
theorem dX12_isDay_2 : decode cX12_isDay 2 = .ok (.ldc_w 256, 3) := by decide +kernel
theorem dX12_isDay_5 : decode cX12_isDay 5 = .ok (.invokestatic 257, 3) := by decide +kernel
theorem dX12_isDay_8 : decode cX12_isDay 8 = .ok (.ireturn, 1) := by decide +kernel
def f_M_isDay (p0 : Int32) (σ : CS) : Option (Int32 × CS) := bnd (f_M_in p0 0 100000 σ) (fun r5 σ5 => grd (r5 = 0 ∨ r5 = 1) (some (r5, σ5)))
set_option maxHeartbeats 4000000 in
set_option maxRecDepth 100000 in
theorem c_M_isDay {l : Launch} {g : EG} {am : Nat → Nat} {Rr : va_W} {σ σ' : CS} {r : Int32} {p0 : Int32}  (h : f_M_isDay p0 σ = some (r, σ')) : CmI l g yX12_isDay (.code yX12_isDay cX12_isDay 1 (some .boolean)) 1 22 am Rr σ [.int p0] r σ' := by
  refine Ct.of rfl (by decide) (Nat.le_of_ble_eq_true rfl) ?_
  intro p e s m args below meth c A C hr
  show NMI g p l e s m args below meth c A 1 22 1 am Rr (r, σ') σ [(0, .int p0)] 0 []
  unfold f_M_isDay at h
  refine nw_iload_n C dX12_isDay_0 rfl 0 rfl ?_
  refine nw_iconst (v := 0) C dX12_isDay_1 (by decide) ?_
  refine nw_ldcw (v := 100000) C tw_1939 dX12_isDay_2 ?_
  refine nm_callSI  (As := [.int p0, .int 0, .int 100000]) (rest := []) C h (fun _ _ e => c_M_in e) tw_1918 ks_X12_in ⟨Nat.le_of_ble_eq_true rfl, Nat.le_of_ble_eq_true rfl⟩ rfl dX12_isDay_5 rfl (Nat.le_of_ble_eq_true rfl) (fun r5 σ5 h => ?_)
  exact nm_zretg C hr dX12_isDay_8 h
theorem dX12_isPlace_0 : decode cX12_isPlace 0 = .ok (.iload_n 0, 1) := by decide +kernel
theorem dX12_isPlace_1 : decode cX12_isPlace 1 = .ok (.iconst 0, 1) := by decide +kernel
theorem dX12_isPlace_2 : decode cX12_isPlace 2 = .ok (.sipush 999, 3) := by decide +kernel
theorem dX12_isPlace_5 : decode cX12_isPlace 5 = .ok (.invokestatic 257, 3) := by decide +kernel
theorem dX12_isPlace_8 : decode cX12_isPlace 8 = .ok (.ifCond .eq 18, 3) := by decide +kernel
theorem dX12_isPlace_11 : decode cX12_isPlace 11 = .ok (.iload_n 1, 1) := by decide +kernel
theorem dX12_isPlace_12 : decode cX12_isPlace 12 = .ok (.iconst 0, 1) := by decide +kernel
theorem dX12_isPlace_13 : decode cX12_isPlace 13 = .ok (.sipush 999, 3) := by decide +kernel
theorem dX12_isPlace_16 : decode cX12_isPlace 16 = .ok (.invokestatic 257, 3) := by decide +kernel
theorem dX12_isPlace_19 : decode cX12_isPlace 19 = .ok (.ifCond .eq 7, 3) := by decide +kernel
theorem dX12_isPlace_22 : decode cX12_isPlace 22 = .ok (.iconst 1, 1) := by decide +kernel
theorem dX12_isPlace_23 : decode cX12_isPlace 23 = .ok (.goto 4, 3) := by decide +kernel
theorem dX12_isPlace_26 : decode cX12_isPlace 26 = .ok (.iconst 0, 1) := by decide +kernel
theorem dX12_isPlace_27 : decode cX12_isPlace 27 = .ok (.ireturn, 1) := by decide +kernel
def f_M_isPlace (p0 : Int32) (p1 : Int32) (σ : CS) : Option (Int32 × CS) := bnd (f_M_in p0 0 999 σ) (fun r5 σ5 => if r5 = 0 then some (0, σ5) else bnd (f_M_in p1 0 999 σ5) (fun r16 σ16 => if r16 = 0 then some (0, σ16) else some (1, σ16)))
set_option maxHeartbeats 4000000 in
set_option maxRecDepth 100000 in
theorem c_M_isPlace {l : Launch} {g : EG} {am : Nat → Nat} {Rr : va_W} {σ σ' : CS} {r : Int32} {p0 : Int32} {p1 : Int32}  (h : f_M_isPlace p0 p1 σ = some (r, σ')) : CmI l g yX12_isPlace (.code yX12_isPlace cX12_isPlace 2 (some .boolean)) 1 22 am Rr σ [.int p0, .int p1] r σ' := by
  refine Ct.of rfl (by decide) (Nat.le_of_ble_eq_true rfl) ?_
  intro p e s m args below meth c A C hr
  show NMI g p l e s m args below meth c A 1 22 2 am Rr (r, σ') σ [(0, .int p0), (1, .int p1)] 0 []
  unfold f_M_isPlace at h
  refine nw_iload_n C dX12_isPlace_0 rfl 0 rfl ?_
  refine nw_iconst (v := 0) C dX12_isPlace_1 (by decide) ?_
  refine nw_sipush (v := 999) C dX12_isPlace_2 (by decide) ?_
  refine nm_callSI  (As := [.int p0, .int 0, .int 999]) (rest := []) C h (fun _ _ e => c_M_in e) tw_1918 ks_X12_in ⟨Nat.le_of_ble_eq_true rfl, Nat.le_of_ble_eq_true rfl⟩ rfl dX12_isPlace_5 rfl (Nat.le_of_ble_eq_true rfl) (fun r5 σ5 h => ?_)
  refine nw_if_eq (tgt := 26) C dX12_isPlace_8 (by decide) h (fun _ h => ?_) (fun _ h => ?_)
  · refine nw_iconst (v := 0) C dX12_isPlace_26 (by decide) ?_
    exact nm_zret C hr (Or.inl rfl) dX12_isPlace_27 h
  · refine nw_iload_n C dX12_isPlace_11 rfl 1 rfl ?_
    refine nw_iconst (v := 0) C dX12_isPlace_12 (by decide) ?_
    refine nw_sipush (v := 999) C dX12_isPlace_13 (by decide) ?_
    refine nm_callSI  (As := [.int p1, .int 0, .int 999]) (rest := []) C h (fun _ _ e => c_M_in e) tw_1918 ks_X12_in ⟨Nat.le_of_ble_eq_true rfl, Nat.le_of_ble_eq_true rfl⟩ rfl dX12_isPlace_16 rfl (Nat.le_of_ble_eq_true rfl) (fun r16 σ16 h => ?_)
    refine nw_if_eq (tgt := 26) C dX12_isPlace_19 (by decide) h (fun _ h => ?_) (fun _ h => ?_)
    · refine nw_iconst (v := 0) C dX12_isPlace_26 (by decide) ?_
      exact nm_zret C hr (Or.inl rfl) dX12_isPlace_27 h
    · refine nw_iconst (v := 1) C dX12_isPlace_22 (by decide) ?_
      refine nw_goto (tgt := 27) C dX12_isPlace_23 (by decide) ?_
      exact nm_zret C hr (Or.inr rfl) dX12_isPlace_27 h
theorem dX12_size_0 : decode cX12_size 0 = .ok (.iload_n 0, 1) := by decide +kernel
theorem dX12_size_1 : decode cX12_size 1 = .ok (.ifCond .ge 8, 3) := by decide +kernel
theorem dX12_size_4 : decode cX12_size 4 = .ok (.iload_n 0, 1) := by decide +kernel
theorem dX12_size_5 : decode cX12_size 5 = .ok (.ineg, 1) := by decide +kernel
theorem dX12_size_6 : decode cX12_size 6 = .ok (.goto 4, 3) := by decide +kernel
theorem dX12_size_9 : decode cX12_size 9 = .ok (.iload_n 0, 1) := by decide +kernel
theorem dX12_size_10 : decode cX12_size 10 = .ok (.ireturn, 1) := by decide +kernel
def f_M_size (p0 : Int32) (σ : CS) : Option (Int32 × CS) := if 0 ≤ p0 then some (p0, σ) else some ((-p0), σ)
set_option maxHeartbeats 4000000 in
set_option maxRecDepth 100000 in
theorem c_M_size {l : Launch} {g : EG} {am : Nat → Nat} {Rr : va_W} {σ σ' : CS} {r : Int32} {p0 : Int32}  (h : f_M_size p0 σ = some (r, σ')) : CmI l g yX12_size (.code yX12_size cX12_size 1 (some .int)) 0 0 am Rr σ [.int p0] r σ' := by
  refine Ct.of rfl (by decide) (Nat.le_of_ble_eq_true rfl) ?_
  intro p e s m args below meth c A C hr
  show NMI g p l e s m args below meth c A 0 0 1 am Rr (r, σ') σ [(0, .int p0)] 0 []
  unfold f_M_size at h
  refine nw_iload_n C dX12_size_0 rfl 0 rfl ?_
  refine nw_if_ge (tgt := 9) C dX12_size_1 (by decide) h (fun _ h => ?_) (fun _ h => ?_)
  · refine nw_iload_n C dX12_size_9 rfl 0 rfl ?_
    exact nm_iret C hr dX12_size_10 h
  · refine nw_iload_n C dX12_size_4 rfl 0 rfl ?_
    refine nw_ineg C dX12_size_5 ?_
    refine nw_goto (tgt := 10) C dX12_size_6 (by decide) ?_
    exact nm_iret C hr dX12_size_10 h
theorem dX12_mark_0 : decode cX12_mark 0 = .ok (.aload_n 0, 1) := by decide +kernel
theorem dX12_mark_1 : decode cX12_mark 1 = .ok (.iconst 0, 1) := by decide +kernel
theorem dX12_mark_2 : decode cX12_mark 2 = .ok (.putfield 253, 3) := by decide +kernel
theorem dX12_mark_5 : decode cX12_mark 5 = .ok (.aload_n 0, 1) := by decide +kernel
theorem dX12_mark_6 : decode cX12_mark 6 = .ok (.iload_n 1, 1) := by decide +kernel
theorem dX12_mark_7 : decode cX12_mark 7 = .ok (.iconst 0, 1) := by decide +kernel
theorem dX12_mark_8 : decode cX12_mark 8 = .ok (.bipush 19, 2) := by decide +kernel
theorem dX12_mark_10 : decode cX12_mark 10 = .ok (.invokestatic 257, 3) := by decide +kernel
theorem dX12_mark_13 : decode cX12_mark 13 = .ok (.ifCond .eq 11, 3) := by decide +kernel
theorem dX12_mark_16 : decode cX12_mark 16 = .ok (.iload_n 2, 1) := by decide +kernel
theorem dX12_mark_17 : decode cX12_mark 17 = .ok (.iload_n 3, 1) := by decide +kernel
theorem dX12_mark_18 : decode cX12_mark 18 = .ok (.invokestatic 261, 3) := by decide +kernel
theorem dX12_mark_21 : decode cX12_mark 21 = .ok (.ifCond .ne 7, 3) := by decide +kernel
theorem dX12_mark_24 : decode cX12_mark 24 = .ok (.iconst 1, 1) := by decide +kernel
theorem dX12_mark_25 : decode cX12_mark 25 = .ok (.goto 4, 3) := by decide +kernel
theorem dX12_mark_28 : decode cX12_mark 28 = .ok (.iconst 0, 1) := by decide +kernel
theorem dX12_mark_29 : decode cX12_mark 29 = .ok (.iconst 1, 1) := by decide +kernel
theorem dX12_mark_30 : decode cX12_mark 30 = .ok (.invokevirtual 265, 3) := by decide +kernel
theorem dX12_mark_33 : decode cX12_mark 33 = .ok (.ifCond .ne 25, 3) := by decide +kernel
theorem dX12_mark_36 : decode cX12_mark 36 = .ok (.aload_n 0, 1) := by decide +kernel
theorem dX12_mark_37 : decode cX12_mark 37 = .ok (.aload_n 0, 1) := by decide +kernel
theorem dX12_mark_38 : decode cX12_mark 38 = .ok (.getfield 269, 3) := by decide +kernel
theorem dX12_mark_41 : decode cX12_mark 41 = .ok (.bipush 40, 2) := by decide +kernel
theorem dX12_mark_43 : decode cX12_mark 43 = .ok (.if_icmp .ne 7, 3) := by decide +kernel
theorem dX12_mark_46 : decode cX12_mark 46 = .ok (.iconst 1, 1) := by decide +kernel
theorem dX12_mark_47 : decode cX12_mark 47 = .ok (.goto 4, 3) := by decide +kernel
theorem dX12_mark_50 : decode cX12_mark 50 = .ok (.iconst 0, 1) := by decide +kernel
theorem dX12_mark_51 : decode cX12_mark 51 = .ok (.iconst 2, 1) := by decide +kernel
theorem dX12_mark_52 : decode cX12_mark 52 = .ok (.invokevirtual 265, 3) := by decide +kernel
theorem dX12_mark_55 : decode cX12_mark 55 = .ok (.ifCond .eq 5, 3) := by decide +kernel
theorem dX12_mark_58 : decode cX12_mark 58 = .ok (.iconst 0, 1) := by decide +kernel
theorem dX12_mark_59 : decode cX12_mark 59 = .ok (.ireturn, 1) := by decide +kernel
theorem dX12_mark_60 : decode cX12_mark 60 = .ok (.iconst 0, 1) := by decide +kernel
theorem dX12_mark_61 : decode cX12_mark 61 = .ok (.istore 4, 2) := by decide +kernel
theorem dX12_mark_63 : decode cX12_mark 63 = .ok (.iconst 0, 1) := by decide +kernel
theorem dX12_mark_64 : decode cX12_mark 64 = .ok (.istore 5, 2) := by decide +kernel
theorem dX12_mark_66 : decode cX12_mark 66 = .ok (.iload 5, 2) := by decide +kernel
theorem dX12_mark_68 : decode cX12_mark 68 = .ok (.aload_n 0, 1) := by decide +kernel
theorem dX12_mark_69 : decode cX12_mark 69 = .ok (.getfield 269, 3) := by decide +kernel
theorem dX12_mark_72 : decode cX12_mark 72 = .ok (.if_icmp .ge 30, 3) := by decide +kernel
theorem dX12_mark_75 : decode cX12_mark 75 = .ok (.iload 4, 2) := by decide +kernel
theorem dX12_mark_77 : decode cX12_mark 77 = .ok (.aload_n 0, 1) := by decide +kernel
theorem dX12_mark_78 : decode cX12_mark 78 = .ok (.getfield 9, 3) := by decide +kernel
theorem dX12_mark_81 : decode cX12_mark 81 = .ok (.iload 5, 2) := by decide +kernel
theorem dX12_mark_83 : decode cX12_mark 83 = .ok (.iaload, 1) := by decide +kernel
theorem dX12_mark_84 : decode cX12_mark 84 = .ok (.iload_n 1, 1) := by decide +kernel
theorem dX12_mark_85 : decode cX12_mark 85 = .ok (.if_icmp .ne 7, 3) := by decide +kernel
theorem dX12_mark_88 : decode cX12_mark 88 = .ok (.iconst 1, 1) := by decide +kernel
theorem dX12_mark_89 : decode cX12_mark 89 = .ok (.goto 4, 3) := by decide +kernel
theorem dX12_mark_92 : decode cX12_mark 92 = .ok (.iconst 0, 1) := by decide +kernel
theorem dX12_mark_93 : decode cX12_mark 93 = .ok (.iadd, 1) := by decide +kernel
theorem dX12_mark_94 : decode cX12_mark 94 = .ok (.istore 4, 2) := by decide +kernel
theorem dX12_mark_96 : decode cX12_mark 96 = .ok (.iinc 5 1, 3) := by decide +kernel
theorem dX12_mark_99 : decode cX12_mark 99 = .ok (.goto (-33), 3) := by decide +kernel
theorem dX12_mark_102 : decode cX12_mark 102 = .ok (.iload 4, 2) := by decide +kernel
theorem dX12_mark_104 : decode cX12_mark 104 = .ok (.iconst 4, 1) := by decide +kernel
theorem dX12_mark_105 : decode cX12_mark 105 = .ok (.if_icmp .ne 5, 3) := by decide +kernel
theorem dX12_mark_108 : decode cX12_mark 108 = .ok (.iconst (-1), 1) := by decide +kernel
theorem dX12_mark_109 : decode cX12_mark 109 = .ok (.ireturn, 1) := by decide +kernel
theorem dX12_mark_110 : decode cX12_mark 110 = .ok (.aload_n 0, 1) := by decide +kernel
theorem dX12_mark_111 : decode cX12_mark 111 = .ok (.getfield 9, 3) := by decide +kernel
theorem dX12_mark_114 : decode cX12_mark 114 = .ok (.aload_n 0, 1) := by decide +kernel
theorem dX12_mark_115 : decode cX12_mark 115 = .ok (.getfield 269, 3) := by decide +kernel
theorem dX12_mark_118 : decode cX12_mark 118 = .ok (.iload_n 1, 1) := by decide +kernel
theorem dX12_mark_119 : decode cX12_mark 119 = .ok (.iastore, 1) := by decide +kernel
theorem dX12_mark_120 : decode cX12_mark 120 = .ok (.aload_n 0, 1) := by decide +kernel
theorem dX12_mark_121 : decode cX12_mark 121 = .ok (.getfield 13, 3) := by decide +kernel
theorem dX12_mark_124 : decode cX12_mark 124 = .ok (.aload_n 0, 1) := by decide +kernel
theorem dX12_mark_125 : decode cX12_mark 125 = .ok (.getfield 269, 3) := by decide +kernel
theorem dX12_mark_128 : decode cX12_mark 128 = .ok (.iload_n 2, 1) := by decide +kernel
theorem dX12_mark_129 : decode cX12_mark 129 = .ok (.iastore, 1) := by decide +kernel
theorem dX12_mark_130 : decode cX12_mark 130 = .ok (.aload_n 0, 1) := by decide +kernel
theorem dX12_mark_131 : decode cX12_mark 131 = .ok (.getfield 16, 3) := by decide +kernel
theorem dX12_mark_134 : decode cX12_mark 134 = .ok (.aload_n 0, 1) := by decide +kernel
theorem dX12_mark_135 : decode cX12_mark 135 = .ok (.getfield 269, 3) := by decide +kernel
theorem dX12_mark_138 : decode cX12_mark 138 = .ok (.iload_n 3, 1) := by decide +kernel
theorem dX12_mark_139 : decode cX12_mark 139 = .ok (.iastore, 1) := by decide +kernel
theorem dX12_mark_140 : decode cX12_mark 140 = .ok (.aload_n 0, 1) := by decide +kernel
theorem dX12_mark_141 : decode cX12_mark 141 = .ok (.dup, 1) := by decide +kernel
theorem dX12_mark_142 : decode cX12_mark 142 = .ok (.getfield 269, 3) := by decide +kernel
theorem dX12_mark_145 : decode cX12_mark 145 = .ok (.iconst 1, 1) := by decide +kernel
theorem dX12_mark_146 : decode cX12_mark 146 = .ok (.iadd, 1) := by decide +kernel
theorem dX12_mark_147 : decode cX12_mark 147 = .ok (.putfield 269, 3) := by decide +kernel
theorem dX12_mark_150 : decode cX12_mark 150 = .ok (.aload_n 0, 1) := by decide +kernel
theorem dX12_mark_151 : decode cX12_mark 151 = .ok (.getfield 269, 3) := by decide +kernel
theorem dX12_mark_154 : decode cX12_mark 154 = .ok (.iconst 1, 1) := by decide +kernel
theorem dX12_mark_155 : decode cX12_mark 155 = .ok (.isub, 1) := by decide +kernel
theorem dX12_mark_156 : decode cX12_mark 156 = .ok (.ireturn, 1) := by decide +kernel
def B_M_mark_93 (k66 : Int32 → Int32 → CS → Option (Int32 × CS)) (x1 : Int32) (x2 : Int32) (x3 : Int32) (x5 : Int32) (z0 : Int32) (z1 : Int32) (σ : CS) : Option (Int32 × CS) := k66 (z0 + z1) (x5 + 1) σ
set_option maxHeartbeats 4000000 in
set_option maxRecDepth 100000 in
theorem w_M_mark_93 (C : Cx g p s m args meth c A 6 cX12_mark yX12_mark.cls) (hr : meth.sig.returnType = (some .int))  {res : Int32 × CS}  (x1 : Int32) (x2 : Int32) (x3 : Int32) (x5 : Int32) (z0 : Int32) (z1 : Int32) {k66 : Int32 → Int32 → CS → Option (Int32 × CS)} (hk66 : ∀ (x4 : Int32) (x5 : Int32) (σ : CS), k66 x4 x5 σ = some res → NMI g p l e s m args below meth c A 2 43 6 am Rr res σ [(0, .ref (am 112)), (1, .int x1), (2, .int x2), (3, .int x3), (4, .int x4), (5, .int x5)] 66 []) (σ : CS) (h : B_M_mark_93 k66 x1 x2 x3 x5 z0 z1 σ = some res) : NMI g p l e s m args below meth c A 2 43 6 am Rr res σ [(0, .ref (am 112)), (1, .int x1), (2, .int x2), (3, .int x3), (5, .int x5)] 93 [.int z1, .int z0] := by
  unfold B_M_mark_93 at h
  refine nw_iadd C dX12_mark_93 ?_
  refine nw_istore (lv' := [(4, .int (z0 + z1)), (0, .ref (am 112)), (1, .int x1), (2, .int x2), (3, .int x3), (5, .int x5)]) C dX12_mark_94 (by decide) rfl ?_
  refine nw_iinc (lv' := [(5, .int (x5 + 1)), (4, .int (z0 + z1)), (0, .ref (am 112)), (1, .int x1), (2, .int x2), (3, .int x3)]) C (x5 + 1) dX12_mark_96 5 rfl rfl (by decide) rfl ?_
  refine nw_goto (tgt := 66) C dX12_mark_99 (by decide) ?_
  exact nw_lv (lv' := [(0, .ref (am 112)), (1, .int x1), (2, .int x2), (3, .int x3), (4, .int (z0 + z1)), (5, .int (x5 + 1))]) [2, 3, 4, 5, 1, 0] rfl (hk66 (z0 + z1) (x5 + 1) _ h)
def L_M_mark_66 (k102 : Int32 → Int32 → Int32 → Int32 → CS → Option (Int32 × CS)) (x1 : Int32) (x2 : Int32) (x3 : Int32) : Nat → Int32 → Int32 → CS → Option (Int32 × CS)
  | 0, _, _, _ => none
  | n + 1, x4, x5, σ => if (σ.1 2) ≤ x5 then k102 x1 x2 x3 x4 σ else gix x5 40 (if (rd σ 3 x5) = x1 then B_M_mark_93 (L_M_mark_66 k102 x1 x2 x3 n) x1 x2 x3 x5 x4 1 σ else B_M_mark_93 (L_M_mark_66 k102 x1 x2 x3 n) x1 x2 x3 x5 x4 0 σ)
set_option maxHeartbeats 4000000 in
set_option maxRecDepth 100000 in
theorem w_M_mark_66 (C : Cx g p s m args meth c A 6 cX12_mark yX12_mark.cls) (hr : meth.sig.returnType = (some .int))  {res : Int32 × CS}  (x1 : Int32) (x2 : Int32) (x3 : Int32) {k102 : Int32 → Int32 → Int32 → Int32 → CS → Option (Int32 × CS)} (hk102 : ∀ (x1 : Int32) (x2 : Int32) (x3 : Int32) (x4 : Int32) (σ : CS), k102 x1 x2 x3 x4 σ = some res → NMI g p l e s m args below meth c A 2 43 6 am Rr res σ [(0, .ref (am 112)), (1, .int x1), (2, .int x2), (3, .int x3), (4, .int x4)] 102 []) : ∀ (n : Nat) (x4 : Int32) (x5 : Int32) (σ : CS), L_M_mark_66 k102 x1 x2 x3 n x4 x5 σ = some res → NMI g p l e s m args below meth c A 2 43 6 am Rr res σ [(0, .ref (am 112)), (1, .int x1), (2, .int x2), (3, .int x3), (4, .int x4), (5, .int x5)] 66 [] := by
  intro n
  induction n with
  | zero =>
    intro x4 x5 σ h
    exact absurd (show (none : Option (Int32 × CS)) = some res from h) (by intro h9; cases h9)
  | succ n ih =>
    intro x4 x5 σ h
    rw [L_M_mark_66] at h
    refine nw_iload C dX12_mark_66 5 rfl ?_
    refine nw_aload_n C dX12_mark_68 rfl 0 rfl ?_
    refine nw_get (v := .int (σ.1 2)) C in_X12 0 ml_O rfl 2 (by decide) tw_1575 rfl mf_2 dX12_mark_69 ?_
    refine nw_icmp_ge (tgt := 102) C dX12_mark_72 (by decide) h (fun _ h => ?_) (fun _ h => ?_)
    · exact nw_lv (lv' := [(0, .ref (am 112)), (1, .int x1), (2, .int x2), (3, .int x3), (4, .int x4)]) [0, 1, 2, 3, 4] rfl (hk102 x1 x2 x3 x4 _ h)
    · refine nw_iload C dX12_mark_75 4 rfl ?_
      refine nw_aload_n C dX12_mark_77 rfl 0 rfl ?_
      refine nw_get (v := .ref (am 3)) C in_X12 0 ml_O rfl 3 (by decide) tw_1576 rfl mf_3 dX12_mark_78 ?_
      refine nw_iload C dX12_mark_81 5 rfl ?_
      refine nw_iald C 1 ml_3 dX12_mark_83 h (fun h => ?_)
      refine nw_iload_n C dX12_mark_84 rfl 1 rfl ?_
      refine nw_icmp_ne (tgt := 92) C dX12_mark_85 (by decide) h (fun _ h => ?_) (fun _ h => ?_)
      · refine nw_iconst (v := 1) C dX12_mark_88 (by decide) ?_
        refine nw_goto (tgt := 93) C dX12_mark_89 (by decide) ?_
        exact nw_lv (lv' := [(0, .ref (am 112)), (1, .int x1), (2, .int x2), (3, .int x3), (5, .int x5)]) [0, 1, 2, 3, 5] rfl (w_M_mark_93 C hr x1 x2 x3 x5 x4 1 ih _ h)
      · refine nw_iconst (v := 0) C dX12_mark_92 (by decide) ?_
        exact nw_lv (lv' := [(0, .ref (am 112)), (1, .int x1), (2, .int x2), (3, .int x3), (5, .int x5)]) [0, 1, 2, 3, 5] rfl (w_M_mark_93 C hr x1 x2 x3 x5 x4 0 ih _ h)
def B_M_mark_102   (x1 : Int32) (x2 : Int32) (x3 : Int32) (x4 : Int32) (σ : CS) : Option (Int32 × CS) := if x4 = 4 then some ((-1), σ) else gix (σ.1 2) 40 (gix (σ.1 2) 40 (gix (σ.1 2) 40 (some ((((σ.1 2) + 1) - 1), (sF (wr (wr (wr σ 3 (σ.1 2) x1) 4 (σ.1 2) x2) 5 (σ.1 2) x3) 2 ((σ.1 2) + 1))))))
set_option maxHeartbeats 4000000 in
set_option maxRecDepth 100000 in
theorem w_M_mark_102 (C : Cx g p s m args meth c A 6 cX12_mark yX12_mark.cls) (hr : meth.sig.returnType = (some .int))  {res : Int32 × CS}   (x1 : Int32) (x2 : Int32) (x3 : Int32) (x4 : Int32)  (σ : CS) (h : B_M_mark_102 x1 x2 x3 x4 σ = some res) : NMI g p l e s m args below meth c A 2 43 6 am Rr res σ [(0, .ref (am 112)), (1, .int x1), (2, .int x2), (3, .int x3), (4, .int x4)] 102 [] := by
  unfold B_M_mark_102 at h
  refine nw_iload C dX12_mark_102 4 rfl ?_
  refine nw_iconst (v := 4) C dX12_mark_104 (by decide) ?_
  refine nw_icmp_ne (tgt := 110) C dX12_mark_105 (by decide) h (fun _ h => ?_) (fun _ h => ?_)
  · refine nw_iconst (v := (-1)) C dX12_mark_108 (by decide) ?_
    exact nm_iret C hr dX12_mark_109 h
  · refine nw_aload_n C dX12_mark_110 rfl 0 rfl ?_
    refine nw_get (v := .ref (am 3)) C in_X12 0 ml_O rfl 3 (by decide) tw_1576 rfl mf_3 dX12_mark_111 ?_
    refine nw_aload_n C dX12_mark_114 rfl 0 rfl ?_
    refine nw_get (v := .int (σ.1 2)) C in_X12 0 ml_O rfl 2 (by decide) tw_1575 rfl mf_2 dX12_mark_115 ?_
    refine nw_iload_n C dX12_mark_118 rfl 1 rfl ?_
    refine nw_iast C 1 ml_3 dX12_mark_119 h ms_3 (fun h => ?_)
    refine nw_aload_n C dX12_mark_120 rfl 0 rfl ?_
    refine nw_get (v := .ref (am 4)) C in_X12 0 ml_O rfl 4 (by decide) tw_1577 rfl mf_4 dX12_mark_121 ?_
    refine nw_aload_n C dX12_mark_124 rfl 0 rfl ?_
    refine nw_get (v := .int (σ.1 2)) C in_X12 0 ml_O rfl 2 (by decide) tw_1575 rfl rfl dX12_mark_125 ?_
    refine nw_iload_n C dX12_mark_128 rfl 2 rfl ?_
    refine nw_iast C 2 ml_4 dX12_mark_129 h ms_4 (fun h => ?_)
    refine nw_aload_n C dX12_mark_130 rfl 0 rfl ?_
    refine nw_get (v := .ref (am 5)) C in_X12 0 ml_O rfl 5 (by decide) tw_1578 rfl mf_5 dX12_mark_131 ?_
    refine nw_aload_n C dX12_mark_134 rfl 0 rfl ?_
    refine nw_get (v := .int (σ.1 2)) C in_X12 0 ml_O rfl 2 (by decide) tw_1575 rfl rfl dX12_mark_135 ?_
    refine nw_iload_n C dX12_mark_138 rfl 3 rfl ?_
    refine nw_iast C 3 ml_5 dX12_mark_139 h ms_5 (fun h => ?_)
    refine nw_aload_n C dX12_mark_140 rfl 0 rfl ?_
    refine nw_dup C dX12_mark_141 rfl ?_
    refine nw_get (v := .int (σ.1 2)) C in_X12 0 ml_O rfl 2 (by decide) tw_1575 rfl rfl dX12_mark_142 ?_
    refine nw_iconst (v := 1) C dX12_mark_145 (by decide) ?_
    refine nw_iadd C dX12_mark_146 ?_
    refine nw_put (ty := .int) C in_X12 0 ml_O rfl 2 (by decide) tyX12 tyX12_ok nmX12 tw_1575 rfl rfl (by decide +kernel) rfl rfl (Nat.le_of_ble_eq_true rfl) dX12_mark_147 ms_2 ?_
    refine nw_aload_n C dX12_mark_150 rfl 0 rfl ?_
    refine nw_get (v := .int ((σ.1 2) + 1)) C in_X12 0 ml_O rfl 2 (by decide) tw_1575 rfl rfl dX12_mark_151 ?_
    refine nw_iconst (v := 1) C dX12_mark_154 (by decide) ?_
    refine nw_isub C dX12_mark_155 ?_
    exact nm_iret C hr dX12_mark_156 h
def B_M_mark_51   (x1 : Int32) (x2 : Int32) (x3 : Int32) (z1 : Int32) (σ : CS) : Option (Int32 × CS) := bnd (f_M_bad z1 2 σ) (fun r52 σ52 => if r52 = 0 then L_M_mark_66 (B_M_mark_102) x1 x2 x3 FU 0 0 σ52 else some (0, σ52))
set_option maxHeartbeats 4000000 in
set_option maxRecDepth 100000 in
theorem w_M_mark_51 (C : Cx g p s m args meth c A 6 cX12_mark yX12_mark.cls) (hr : meth.sig.returnType = (some .int))  {res : Int32 × CS}   (x1 : Int32) (x2 : Int32) (x3 : Int32) (z1 : Int32)  (σ : CS) (h : B_M_mark_51 x1 x2 x3 z1 σ = some res) : NMI g p l e s m args below meth c A 2 43 6 am Rr res σ [(0, .ref (am 112)), (1, .int x1), (2, .int x2), (3, .int x3)] 51 [.int z1, .ref (am 112)] := by
  unfold B_M_mark_51 at h
  refine nw_iconst (v := 2) C dX12_mark_51 (by decide) ?_
  refine nm_callVI (q0 := 0) (As := [.int z1, .int 2]) (rest := []) C h (fun _ _ e => c_M_bad e) tw_1924 kv_X12_bad ml_O rfl ⟨Nat.le_of_ble_eq_true rfl, Nat.le_of_ble_eq_true rfl⟩ rfl dX12_mark_52 rfl (Nat.le_of_ble_eq_true rfl) (fun r52 σ52 h => ?_)
  refine nw_if_eq (tgt := 60) C dX12_mark_55 (by decide) h (fun _ h => ?_) (fun _ h => ?_)
  · refine nw_iconst (v := 0) C dX12_mark_60 (by decide) ?_
    refine nw_istore (lv' := [(4, .int 0), (0, .ref (am 112)), (1, .int x1), (2, .int x2), (3, .int x3)]) C dX12_mark_61 (by decide) rfl ?_
    refine nw_iconst (v := 0) C dX12_mark_63 (by decide) ?_
    refine nw_istore (lv' := [(5, .int 0), (4, .int 0), (0, .ref (am 112)), (1, .int x1), (2, .int x2), (3, .int x3)]) C dX12_mark_64 (by decide) rfl ?_
    exact nw_lv (lv' := [(0, .ref (am 112)), (1, .int x1), (2, .int x2), (3, .int x3), (4, .int 0), (5, .int 0)]) [2, 3, 4, 5, 1, 0] rfl (w_M_mark_66 C hr x1 x2 x3 (fun x1_ x2_ x3_ x4_ σ_ h_ => w_M_mark_102 C hr x1_ x2_ x3_ x4_ σ_ h_) FU 0 0 _ h)
  · refine nw_iconst (v := 0) C dX12_mark_58 (by decide) ?_
    exact nm_iret C hr dX12_mark_59 h
def B_M_mark_29   (x1 : Int32) (x2 : Int32) (x3 : Int32) (z1 : Int32) (σ : CS) : Option (Int32 × CS) := bnd (f_M_bad z1 1 σ) (fun r30 σ30 => if r30 = 0 then if (σ30.1 2) = 40 then B_M_mark_51 x1 x2 x3 1 σ30 else B_M_mark_51 x1 x2 x3 0 σ30 else some (0, σ30))
set_option maxHeartbeats 4000000 in
set_option maxRecDepth 100000 in
theorem w_M_mark_29 (C : Cx g p s m args meth c A 6 cX12_mark yX12_mark.cls) (hr : meth.sig.returnType = (some .int))  {res : Int32 × CS}   (x1 : Int32) (x2 : Int32) (x3 : Int32) (z1 : Int32)  (σ : CS) (h : B_M_mark_29 x1 x2 x3 z1 σ = some res) : NMI g p l e s m args below meth c A 2 43 6 am Rr res σ [(0, .ref (am 112)), (1, .int x1), (2, .int x2), (3, .int x3)] 29 [.int z1, .ref (am 112)] := by
  unfold B_M_mark_29 at h
  refine nw_iconst (v := 1) C dX12_mark_29 (by decide) ?_
  refine nm_callVI (q0 := 0) (As := [.int z1, .int 1]) (rest := []) C h (fun _ _ e => c_M_bad e) tw_1924 kv_X12_bad ml_O rfl ⟨Nat.le_of_ble_eq_true rfl, Nat.le_of_ble_eq_true rfl⟩ rfl dX12_mark_30 rfl (Nat.le_of_ble_eq_true rfl) (fun r30 σ30 h => ?_)
  refine nw_if_ne (tgt := 58) C dX12_mark_33 (by decide) h (fun _ h => ?_) (fun _ h => ?_)
  · refine nw_aload_n C dX12_mark_36 rfl 0 rfl ?_
    refine nw_aload_n C dX12_mark_37 rfl 0 rfl ?_
    refine nw_get (v := .int (σ30.1 2)) C in_X12 0 ml_O rfl 2 (by decide) tw_1575 rfl mf_2 dX12_mark_38 ?_
    refine nw_bipush (v := 40) C dX12_mark_41 (by decide) ?_
    refine nw_icmp_ne (tgt := 50) C dX12_mark_43 (by decide) h (fun _ h => ?_) (fun _ h => ?_)
    · refine nw_iconst (v := 1) C dX12_mark_46 (by decide) ?_
      refine nw_goto (tgt := 51) C dX12_mark_47 (by decide) ?_
      exact nw_lv (lv' := [(0, .ref (am 112)), (1, .int x1), (2, .int x2), (3, .int x3)]) [0, 1, 2, 3] rfl (w_M_mark_51 C hr x1 x2 x3 1 _ h)
    · refine nw_iconst (v := 0) C dX12_mark_50 (by decide) ?_
      exact nw_lv (lv' := [(0, .ref (am 112)), (1, .int x1), (2, .int x2), (3, .int x3)]) [0, 1, 2, 3] rfl (w_M_mark_51 C hr x1 x2 x3 0 _ h)
  · refine nw_iconst (v := 0) C dX12_mark_58 (by decide) ?_
    exact nm_iret C hr dX12_mark_59 h
def f_M_mark (p0 : Int32) (p1 : Int32) (p2 : Int32) (σ : CS) : Option (Int32 × CS) := bnd (f_M_in p0 0 19 (sF σ 0 0)) (fun r10 σ10 => if r10 = 0 then B_M_mark_29 p0 p1 p2 1 σ10 else bnd (f_M_isPlace p1 p2 σ10) (fun r18 σ18 => if r18 = 0 then B_M_mark_29 p0 p1 p2 1 σ18 else B_M_mark_29 p0 p1 p2 0 σ18))
set_option maxHeartbeats 4000000 in
set_option maxRecDepth 100000 in
theorem c_M_mark {l : Launch} {g : EG} {am : Nat → Nat} {Rr : va_W} {σ σ' : CS} {r : Int32} {p0 : Int32} {p1 : Int32} {p2 : Int32}  (h : f_M_mark p0 p1 p2 σ = some (r, σ')) : CmI l g yX12_mark (.code yX12_mark cX12_mark 6 (some .int)) 2 43 am Rr σ [.ref (am 112), .int p0, .int p1, .int p2] r σ' := by
  refine Ct.of rfl (by decide) (Nat.le_of_ble_eq_true rfl) ?_
  intro p e s m args below meth c A C hr
  show NMI g p l e s m args below meth c A 2 43 6 am Rr (r, σ') σ [(0, .ref (am 112)), (1, .int p0), (2, .int p1), (3, .int p2)] 0 []
  unfold f_M_mark at h
  refine nw_aload_n C dX12_mark_0 rfl 0 rfl ?_
  refine nw_iconst (v := 0) C dX12_mark_1 (by decide) ?_
  refine nw_put (ty := .int) C in_X12 0 ml_O rfl 0 (by decide) tyX12 tyX12_ok nmX12 tw_1573 rfl rfl (by decide +kernel) rfl rfl (Nat.le_of_ble_eq_true rfl) dX12_mark_2 ms_0 ?_
  refine nw_aload_n C dX12_mark_5 rfl 0 rfl ?_
  refine nw_iload_n C dX12_mark_6 rfl 1 rfl ?_
  refine nw_iconst (v := 0) C dX12_mark_7 (by decide) ?_
  refine nw_bipush (v := 19) C dX12_mark_8 (by decide) ?_
  refine nm_callSI  (As := [.int p0, .int 0, .int 19]) (rest := [.ref (am 112)]) C h (fun _ _ e => c_M_in e) tw_1918 ks_X12_in ⟨Nat.le_of_ble_eq_true rfl, Nat.le_of_ble_eq_true rfl⟩ rfl dX12_mark_10 rfl (Nat.le_of_ble_eq_true rfl) (fun r10 σ10 h => ?_)
  refine nw_if_eq (tgt := 24) C dX12_mark_13 (by decide) h (fun _ h => ?_) (fun _ h => ?_)
  · refine nw_iconst (v := 1) C dX12_mark_24 (by decide) ?_
    refine nw_goto (tgt := 29) C dX12_mark_25 (by decide) ?_
    exact nw_lv (lv' := [(0, .ref (am 112)), (1, .int p0), (2, .int p1), (3, .int p2)]) [0, 1, 2, 3] rfl (w_M_mark_29 C hr p0 p1 p2 1 _ h)
  · refine nw_iload_n C dX12_mark_16 rfl 2 rfl ?_
    refine nw_iload_n C dX12_mark_17 rfl 3 rfl ?_
    refine nm_callSI  (As := [.int p1, .int p2]) (rest := [.ref (am 112)]) C h (fun _ _ e => c_M_isPlace e) tw_1921 ks_X12_isPlace ⟨Nat.le_of_ble_eq_true rfl, Nat.le_of_ble_eq_true rfl⟩ rfl dX12_mark_18 rfl (Nat.le_of_ble_eq_true rfl) (fun r18 σ18 h => ?_)
    refine nw_if_ne (tgt := 28) C dX12_mark_21 (by decide) h (fun _ h => ?_) (fun _ h => ?_)
    · refine nw_iconst (v := 1) C dX12_mark_24 (by decide) ?_
      refine nw_goto (tgt := 29) C dX12_mark_25 (by decide) ?_
      exact nw_lv (lv' := [(0, .ref (am 112)), (1, .int p0), (2, .int p1), (3, .int p2)]) [0, 1, 2, 3] rfl (w_M_mark_29 C hr p0 p1 p2 1 _ h)
    · refine nw_iconst (v := 0) C dX12_mark_28 (by decide) ?_
      exact nw_lv (lv' := [(0, .ref (am 112)), (1, .int p0), (2, .int p1), (3, .int p2)]) [0, 1, 2, 3] rfl (w_M_mark_29 C hr p0 p1 p2 0 _ h)
theorem dX12_feed_0 : decode cX12_feed 0 = .ok (.aload_n 0, 1) := by decide +kernel
theorem dX12_feed_1 : decode cX12_feed 1 = .ok (.iconst 0, 1) := by decide +kernel
theorem dX12_feed_2 : decode cX12_feed 2 = .ok (.putfield 253, 3) := by decide +kernel
theorem dX12_feed_5 : decode cX12_feed 5 = .ok (.aload_n 0, 1) := by decide +kernel
theorem dX12_feed_6 : decode cX12_feed 6 = .ok (.getfield 272, 3) := by decide +kernel
theorem dX12_feed_9 : decode cX12_feed 9 = .ok (.bipush 20, 2) := by decide +kernel
theorem dX12_feed_11 : decode cX12_feed 11 = .ok (.iadd, 1) := by decide +kernel
theorem dX12_feed_12 : decode cX12_feed 12 = .ok (.sipush 400, 3) := by decide +kernel
theorem dX12_feed_15 : decode cX12_feed 15 = .ok (.if_icmp .le 5, 3) := by decide +kernel
theorem dX12_feed_18 : decode cX12_feed 18 = .ok (.iconst (-1), 1) := by decide +kernel
theorem dX12_feed_19 : decode cX12_feed 19 = .ok (.ireturn, 1) := by decide +kernel
theorem dX12_feed_20 : decode cX12_feed 20 = .ok (.iconst 0, 1) := by decide +kernel
theorem dX12_feed_21 : decode cX12_feed 21 = .ok (.istore 6, 2) := by decide +kernel
theorem dX12_feed_23 : decode cX12_feed 23 = .ok (.iload 6, 2) := by decide +kernel
theorem dX12_feed_25 : decode cX12_feed 25 = .ok (.iconst 5, 1) := by decide +kernel
theorem dX12_feed_26 : decode cX12_feed 26 = .ok (.if_icmp .ge 93, 3) := by decide +kernel
theorem dX12_feed_29 : decode cX12_feed 29 = .ok (.iload 6, 2) := by decide +kernel
theorem dX12_feed_31 : decode cX12_feed 31 = .ok (.ifCond .ne 7, 3) := by decide +kernel
theorem dX12_feed_34 : decode cX12_feed 34 = .ok (.iload_n 1, 1) := by decide +kernel
theorem dX12_feed_35 : decode cX12_feed 35 = .ok (.goto 36, 3) := by decide +kernel
theorem dX12_feed_38 : decode cX12_feed 38 = .ok (.iload 6, 2) := by decide +kernel
theorem dX12_feed_40 : decode cX12_feed 40 = .ok (.iconst 1, 1) := by decide +kernel
theorem dX12_feed_41 : decode cX12_feed 41 = .ok (.if_icmp .ne 7, 3) := by decide +kernel
theorem dX12_feed_44 : decode cX12_feed 44 = .ok (.iload_n 2, 1) := by decide +kernel
theorem dX12_feed_45 : decode cX12_feed 45 = .ok (.goto 26, 3) := by decide +kernel
theorem dX12_feed_48 : decode cX12_feed 48 = .ok (.iload 6, 2) := by decide +kernel
theorem dX12_feed_50 : decode cX12_feed 50 = .ok (.iconst 2, 1) := by decide +kernel
theorem dX12_feed_51 : decode cX12_feed 51 = .ok (.if_icmp .ne 7, 3) := by decide +kernel
theorem dX12_feed_54 : decode cX12_feed 54 = .ok (.iload_n 3, 1) := by decide +kernel
theorem dX12_feed_55 : decode cX12_feed 55 = .ok (.goto 16, 3) := by decide +kernel
theorem dX12_feed_58 : decode cX12_feed 58 = .ok (.iload 6, 2) := by decide +kernel
theorem dX12_feed_60 : decode cX12_feed 60 = .ok (.iconst 3, 1) := by decide +kernel
theorem dX12_feed_61 : decode cX12_feed 61 = .ok (.if_icmp .ne 8, 3) := by decide +kernel
theorem dX12_feed_64 : decode cX12_feed 64 = .ok (.iload 4, 2) := by decide +kernel
theorem dX12_feed_66 : decode cX12_feed 66 = .ok (.goto 5, 3) := by decide +kernel
theorem dX12_feed_69 : decode cX12_feed 69 = .ok (.iload 5, 2) := by decide +kernel
theorem dX12_feed_71 : decode cX12_feed 71 = .ok (.istore 7, 2) := by decide +kernel
theorem dX12_feed_73 : decode cX12_feed 73 = .ok (.bipush 24, 2) := by decide +kernel
theorem dX12_feed_75 : decode cX12_feed 75 = .ok (.istore 8, 2) := by decide +kernel
theorem dX12_feed_77 : decode cX12_feed 77 = .ok (.iload 8, 2) := by decide +kernel
theorem dX12_feed_79 : decode cX12_feed 79 = .ok (.ifCond .lt 34, 3) := by decide +kernel
theorem dX12_feed_82 : decode cX12_feed 82 = .ok (.aload_n 0, 1) := by decide +kernel
theorem dX12_feed_83 : decode cX12_feed 83 = .ok (.getfield 19, 3) := by decide +kernel
theorem dX12_feed_86 : decode cX12_feed 86 = .ok (.aload_n 0, 1) := by decide +kernel
theorem dX12_feed_87 : decode cX12_feed 87 = .ok (.getfield 272, 3) := by decide +kernel
theorem dX12_feed_90 : decode cX12_feed 90 = .ok (.iload 7, 2) := by decide +kernel
theorem dX12_feed_92 : decode cX12_feed 92 = .ok (.iload 8, 2) := by decide +kernel
theorem dX12_feed_94 : decode cX12_feed 94 = .ok (.ishr, 1) := by decide +kernel
theorem dX12_feed_95 : decode cX12_feed 95 = .ok (.i2b, 1) := by decide +kernel
theorem dX12_feed_96 : decode cX12_feed 96 = .ok (.bastore, 1) := by decide +kernel
theorem dX12_feed_97 : decode cX12_feed 97 = .ok (.aload_n 0, 1) := by decide +kernel
theorem dX12_feed_98 : decode cX12_feed 98 = .ok (.dup, 1) := by decide +kernel
theorem dX12_feed_99 : decode cX12_feed 99 = .ok (.getfield 272, 3) := by decide +kernel
theorem dX12_feed_102 : decode cX12_feed 102 = .ok (.iconst 1, 1) := by decide +kernel
theorem dX12_feed_103 : decode cX12_feed 103 = .ok (.iadd, 1) := by decide +kernel
theorem dX12_feed_104 : decode cX12_feed 104 = .ok (.putfield 272, 3) := by decide +kernel
theorem dX12_feed_107 : decode cX12_feed 107 = .ok (.iinc 8 (-8), 3) := by decide +kernel
theorem dX12_feed_110 : decode cX12_feed 110 = .ok (.goto (-33), 3) := by decide +kernel
theorem dX12_feed_113 : decode cX12_feed 113 = .ok (.iinc 6 1, 3) := by decide +kernel
theorem dX12_feed_116 : decode cX12_feed 116 = .ok (.goto (-93), 3) := by decide +kernel
theorem dX12_feed_119 : decode cX12_feed 119 = .ok (.aload_n 0, 1) := by decide +kernel
theorem dX12_feed_120 : decode cX12_feed 120 = .ok (.getfield 272, 3) := by decide +kernel
theorem dX12_feed_123 : decode cX12_feed 123 = .ok (.ireturn, 1) := by decide +kernel
def L_M_feed_77 (k23 : Int32 → CS → Option (Int32 × CS)) (x1 : Int32) (x2 : Int32) (x3 : Int32) (x4 : Int32) (x5 : Int32) (x6 : Int32) (x7 : Int32) : Nat → Int32 → CS → Option (Int32 × CS)
  | 0, _, _ => none
  | n + 1, x8, σ => if x8 < 0 then k23 (x6 + 1) σ else gix (σ.1 7) 400 ((L_M_feed_77 k23 x1 x2 x3 x4 x5 x6 x7 n) (x8 + (-8)) (sF (wr σ 6 (σ.1 7) (vp_nar .byte (((x7 >>> (x8 &&& 31)) : Int32).toInt8.toInt32))) 7 ((σ.1 7) + 1)))
set_option maxHeartbeats 4000000 in
set_option maxRecDepth 100000 in
theorem w_M_feed_77 (C : Cx g p s m args meth c A 9 cX12_feed yX12_feed.cls) (hr : meth.sig.returnType = (some .int))  {res : Int32 × CS}  (x1 : Int32) (x2 : Int32) (x3 : Int32) (x4 : Int32) (x5 : Int32) (x6 : Int32) (x7 : Int32) {k23 : Int32 → CS → Option (Int32 × CS)} (hk23 : ∀ (x6 : Int32) (σ : CS), k23 x6 σ = some res → NMI g p l e s m args below meth c A 0 0 9 am Rr res σ [(0, .ref (am 112)), (1, .int x1), (2, .int x2), (3, .int x3), (4, .int x4), (5, .int x5), (6, .int x6)] 23 []) : ∀ (n : Nat) (x8 : Int32) (σ : CS), L_M_feed_77 k23 x1 x2 x3 x4 x5 x6 x7 n x8 σ = some res → NMI g p l e s m args below meth c A 0 0 9 am Rr res σ [(0, .ref (am 112)), (1, .int x1), (2, .int x2), (3, .int x3), (4, .int x4), (5, .int x5), (6, .int x6), (7, .int x7), (8, .int x8)] 77 [] := by
  intro n
  induction n with
  | zero =>
    intro x8 σ h
    exact absurd (show (none : Option (Int32 × CS)) = some res from h) (by intro h9; cases h9)
  | succ n ih =>
    intro x8 σ h
    rw [L_M_feed_77] at h
    refine nw_iload C dX12_feed_77 8 rfl ?_
    refine nw_if_lt (tgt := 113) C dX12_feed_79 (by decide) h (fun _ h => ?_) (fun _ h => ?_)
    · refine nw_iinc (lv' := [(6, .int (x6 + 1)), (0, .ref (am 112)), (1, .int x1), (2, .int x2), (3, .int x3), (4, .int x4), (5, .int x5), (7, .int x7), (8, .int x8)]) C (x6 + 1) dX12_feed_113 6 rfl rfl (by decide) rfl ?_
      refine nw_goto (tgt := 23) C dX12_feed_116 (by decide) ?_
      exact nw_lv (lv' := [(0, .ref (am 112)), (1, .int x1), (2, .int x2), (3, .int x3), (4, .int x4), (5, .int x5), (6, .int (x6 + 1))]) [1, 2, 3, 4, 5, 6, 0] rfl (hk23 (x6 + 1) _ h)
    · refine nw_aload_n C dX12_feed_82 rfl 0 rfl ?_
      refine nw_get (v := .ref (am 6)) C in_X12 0 ml_O rfl 6 (by decide) tw_1579 rfl mf_6 dX12_feed_83 ?_
      refine nw_aload_n C dX12_feed_86 rfl 0 rfl ?_
      refine nw_get (v := .int (σ.1 7)) C in_X12 0 ml_O rfl 7 (by decide) tw_1580 rfl mf_7 dX12_feed_87 ?_
      refine nw_iload C dX12_feed_90 7 rfl ?_
      refine nw_iload C dX12_feed_92 8 rfl ?_
      refine nw_ishr C dX12_feed_94 ?_
      refine nw_i2b C dX12_feed_95 ?_
      refine nw_bast C 4 ml_6 dX12_feed_96 h ms_6 (fun h => ?_)
      refine nw_aload_n C dX12_feed_97 rfl 0 rfl ?_
      refine nw_dup C dX12_feed_98 rfl ?_
      refine nw_get (v := .int (σ.1 7)) C in_X12 0 ml_O rfl 7 (by decide) tw_1580 rfl rfl dX12_feed_99 ?_
      refine nw_iconst (v := 1) C dX12_feed_102 (by decide) ?_
      refine nw_iadd C dX12_feed_103 ?_
      refine nw_put (ty := .int) C in_X12 0 ml_O rfl 7 (by decide) tyX12 tyX12_ok nmX12 tw_1580 rfl rfl (by decide +kernel) rfl rfl (Nat.le_of_ble_eq_true rfl) dX12_feed_104 ms_7 ?_
      refine nw_iinc (lv' := [(8, .int (x8 + (-8))), (0, .ref (am 112)), (1, .int x1), (2, .int x2), (3, .int x3), (4, .int x4), (5, .int x5), (6, .int x6), (7, .int x7)]) C (x8 + (-8)) dX12_feed_107 8 rfl rfl (by decide) rfl ?_
      refine nw_goto (tgt := 77) C dX12_feed_110 (by decide) ?_
      exact nw_lv (lv' := [(0, .ref (am 112)), (1, .int x1), (2, .int x2), (3, .int x3), (4, .int x4), (5, .int x5), (6, .int x6), (7, .int x7), (8, .int (x8 + (-8)))]) [1, 2, 3, 4, 5, 6, 7, 8, 0] rfl (ih (x8 + (-8)) _ h)
def L_M_feed_23  (x1 : Int32) (x2 : Int32) (x3 : Int32) (x4 : Int32) (x5 : Int32) : Nat → Int32 → CS → Option (Int32 × CS)
  | 0, _, _ => none
  | n + 1, x6, σ => if 5 ≤ x6 then some ((σ.1 7), σ) else if x6 = 0 then L_M_feed_77 (L_M_feed_23 x1 x2 x3 x4 x5 n) x1 x2 x3 x4 x5 x6 x1 FU 24 σ else if x6 = 1 then L_M_feed_77 (L_M_feed_23 x1 x2 x3 x4 x5 n) x1 x2 x3 x4 x5 x6 x2 FU 24 σ else if x6 = 2 then L_M_feed_77 (L_M_feed_23 x1 x2 x3 x4 x5 n) x1 x2 x3 x4 x5 x6 x3 FU 24 σ else if x6 = 3 then L_M_feed_77 (L_M_feed_23 x1 x2 x3 x4 x5 n) x1 x2 x3 x4 x5 x6 x4 FU 24 σ else L_M_feed_77 (L_M_feed_23 x1 x2 x3 x4 x5 n) x1 x2 x3 x4 x5 x6 x5 FU 24 σ
set_option maxHeartbeats 4000000 in
set_option maxRecDepth 100000 in
theorem w_M_feed_23 (C : Cx g p s m args meth c A 9 cX12_feed yX12_feed.cls) (hr : meth.sig.returnType = (some .int))  {res : Int32 × CS}  (x1 : Int32) (x2 : Int32) (x3 : Int32) (x4 : Int32) (x5 : Int32)  : ∀ (n : Nat) (x6 : Int32) (σ : CS), L_M_feed_23 x1 x2 x3 x4 x5 n x6 σ = some res → NMI g p l e s m args below meth c A 0 0 9 am Rr res σ [(0, .ref (am 112)), (1, .int x1), (2, .int x2), (3, .int x3), (4, .int x4), (5, .int x5), (6, .int x6)] 23 [] := by
  intro n
  induction n with
  | zero =>
    intro x6 σ h
    exact absurd (show (none : Option (Int32 × CS)) = some res from h) (by intro h9; cases h9)
  | succ n ih =>
    intro x6 σ h
    rw [L_M_feed_23] at h
    refine nw_iload C dX12_feed_23 6 rfl ?_
    refine nw_iconst (v := 5) C dX12_feed_25 (by decide) ?_
    refine nw_icmp_ge (tgt := 119) C dX12_feed_26 (by decide) h (fun _ h => ?_) (fun _ h => ?_)
    · refine nw_aload_n C dX12_feed_119 rfl 0 rfl ?_
      refine nw_get (v := .int (σ.1 7)) C in_X12 0 ml_O rfl 7 (by decide) tw_1580 rfl mf_7 dX12_feed_120 ?_
      exact nm_iret C hr dX12_feed_123 h
    · refine nw_iload C dX12_feed_29 6 rfl ?_
      refine nw_if_ne (tgt := 38) C dX12_feed_31 (by decide) h (fun _ h => ?_) (fun _ h => ?_)
      · refine nw_iload_n C dX12_feed_34 rfl 1 rfl ?_
        refine nw_goto (tgt := 71) C dX12_feed_35 (by decide) ?_
        refine nw_istore (lv' := [(7, .int x1), (0, .ref (am 112)), (1, .int x1), (2, .int x2), (3, .int x3), (4, .int x4), (5, .int x5), (6, .int x6)]) C dX12_feed_71 (by decide) rfl ?_
        refine nw_bipush (v := 24) C dX12_feed_73 (by decide) ?_
        refine nw_istore (lv' := [(8, .int 24), (7, .int x1), (0, .ref (am 112)), (1, .int x1), (2, .int x2), (3, .int x3), (4, .int x4), (5, .int x5), (6, .int x6)]) C dX12_feed_75 (by decide) rfl ?_
        exact nw_lv (lv' := [(0, .ref (am 112)), (1, .int x1), (2, .int x2), (3, .int x3), (4, .int x4), (5, .int x5), (6, .int x6), (7, .int x1), (8, .int 24)]) [2, 3, 4, 5, 6, 7, 8, 1, 0] rfl (w_M_feed_77 C hr x1 x2 x3 x4 x5 x6 x1 ih FU 24 _ h)
      · refine nw_iload C dX12_feed_38 6 rfl ?_
        refine nw_iconst (v := 1) C dX12_feed_40 (by decide) ?_
        refine nw_icmp_ne (tgt := 48) C dX12_feed_41 (by decide) h (fun _ h => ?_) (fun _ h => ?_)
        · refine nw_iload_n C dX12_feed_44 rfl 2 rfl ?_
          refine nw_goto (tgt := 71) C dX12_feed_45 (by decide) ?_
          refine nw_istore (lv' := [(7, .int x2), (0, .ref (am 112)), (1, .int x1), (2, .int x2), (3, .int x3), (4, .int x4), (5, .int x5), (6, .int x6)]) C dX12_feed_71 (by decide) rfl ?_
          refine nw_bipush (v := 24) C dX12_feed_73 (by decide) ?_
          refine nw_istore (lv' := [(8, .int 24), (7, .int x2), (0, .ref (am 112)), (1, .int x1), (2, .int x2), (3, .int x3), (4, .int x4), (5, .int x5), (6, .int x6)]) C dX12_feed_75 (by decide) rfl ?_
          exact nw_lv (lv' := [(0, .ref (am 112)), (1, .int x1), (2, .int x2), (3, .int x3), (4, .int x4), (5, .int x5), (6, .int x6), (7, .int x2), (8, .int 24)]) [2, 3, 4, 5, 6, 7, 8, 1, 0] rfl (w_M_feed_77 C hr x1 x2 x3 x4 x5 x6 x2 ih FU 24 _ h)
        · refine nw_iload C dX12_feed_48 6 rfl ?_
          refine nw_iconst (v := 2) C dX12_feed_50 (by decide) ?_
          refine nw_icmp_ne (tgt := 58) C dX12_feed_51 (by decide) h (fun _ h => ?_) (fun _ h => ?_)
          · refine nw_iload_n C dX12_feed_54 rfl 3 rfl ?_
            refine nw_goto (tgt := 71) C dX12_feed_55 (by decide) ?_
            refine nw_istore (lv' := [(7, .int x3), (0, .ref (am 112)), (1, .int x1), (2, .int x2), (3, .int x3), (4, .int x4), (5, .int x5), (6, .int x6)]) C dX12_feed_71 (by decide) rfl ?_
            refine nw_bipush (v := 24) C dX12_feed_73 (by decide) ?_
            refine nw_istore (lv' := [(8, .int 24), (7, .int x3), (0, .ref (am 112)), (1, .int x1), (2, .int x2), (3, .int x3), (4, .int x4), (5, .int x5), (6, .int x6)]) C dX12_feed_75 (by decide) rfl ?_
            exact nw_lv (lv' := [(0, .ref (am 112)), (1, .int x1), (2, .int x2), (3, .int x3), (4, .int x4), (5, .int x5), (6, .int x6), (7, .int x3), (8, .int 24)]) [2, 3, 4, 5, 6, 7, 8, 1, 0] rfl (w_M_feed_77 C hr x1 x2 x3 x4 x5 x6 x3 ih FU 24 _ h)
          · refine nw_iload C dX12_feed_58 6 rfl ?_
            refine nw_iconst (v := 3) C dX12_feed_60 (by decide) ?_
            refine nw_icmp_ne (tgt := 69) C dX12_feed_61 (by decide) h (fun _ h => ?_) (fun _ h => ?_)
            · refine nw_iload C dX12_feed_64 4 rfl ?_
              refine nw_goto (tgt := 71) C dX12_feed_66 (by decide) ?_
              refine nw_istore (lv' := [(7, .int x4), (0, .ref (am 112)), (1, .int x1), (2, .int x2), (3, .int x3), (4, .int x4), (5, .int x5), (6, .int x6)]) C dX12_feed_71 (by decide) rfl ?_
              refine nw_bipush (v := 24) C dX12_feed_73 (by decide) ?_
              refine nw_istore (lv' := [(8, .int 24), (7, .int x4), (0, .ref (am 112)), (1, .int x1), (2, .int x2), (3, .int x3), (4, .int x4), (5, .int x5), (6, .int x6)]) C dX12_feed_75 (by decide) rfl ?_
              exact nw_lv (lv' := [(0, .ref (am 112)), (1, .int x1), (2, .int x2), (3, .int x3), (4, .int x4), (5, .int x5), (6, .int x6), (7, .int x4), (8, .int 24)]) [2, 3, 4, 5, 6, 7, 8, 1, 0] rfl (w_M_feed_77 C hr x1 x2 x3 x4 x5 x6 x4 ih FU 24 _ h)
            · refine nw_iload C dX12_feed_69 5 rfl ?_
              refine nw_istore (lv' := [(7, .int x5), (0, .ref (am 112)), (1, .int x1), (2, .int x2), (3, .int x3), (4, .int x4), (5, .int x5), (6, .int x6)]) C dX12_feed_71 (by decide) rfl ?_
              refine nw_bipush (v := 24) C dX12_feed_73 (by decide) ?_
              refine nw_istore (lv' := [(8, .int 24), (7, .int x5), (0, .ref (am 112)), (1, .int x1), (2, .int x2), (3, .int x3), (4, .int x4), (5, .int x5), (6, .int x6)]) C dX12_feed_75 (by decide) rfl ?_
              exact nw_lv (lv' := [(0, .ref (am 112)), (1, .int x1), (2, .int x2), (3, .int x3), (4, .int x4), (5, .int x5), (6, .int x6), (7, .int x5), (8, .int 24)]) [2, 3, 4, 5, 6, 7, 8, 1, 0] rfl (w_M_feed_77 C hr x1 x2 x3 x4 x5 x6 x5 ih FU 24 _ h)
def f_M_feed (p0 : Int32) (p1 : Int32) (p2 : Int32) (p3 : Int32) (p4 : Int32) (σ : CS) : Option (Int32 × CS) := if ((σ.1 7) + 20) ≤ 400 then L_M_feed_23 p0 p1 p2 p3 p4 FU 0 (sF σ 0 0) else some ((-1), (sF σ 0 0))
set_option maxHeartbeats 4000000 in
set_option maxRecDepth 100000 in
theorem c_M_feed {l : Launch} {g : EG} {am : Nat → Nat} {Rr : va_W} {σ σ' : CS} {r : Int32} {p0 : Int32} {p1 : Int32} {p2 : Int32} {p3 : Int32} {p4 : Int32}  (h : f_M_feed p0 p1 p2 p3 p4 σ = some (r, σ')) : CmI l g yX12_feed (.code yX12_feed cX12_feed 9 (some .int)) 0 0 am Rr σ [.ref (am 112), .int p0, .int p1, .int p2, .int p3, .int p4] r σ' := by
  refine Ct.of rfl (by decide) (Nat.le_of_ble_eq_true rfl) ?_
  intro p e s m args below meth c A C hr
  show NMI g p l e s m args below meth c A 0 0 9 am Rr (r, σ') σ [(0, .ref (am 112)), (1, .int p0), (2, .int p1), (3, .int p2), (4, .int p3), (5, .int p4)] 0 []
  unfold f_M_feed at h
  refine nw_aload_n C dX12_feed_0 rfl 0 rfl ?_
  refine nw_iconst (v := 0) C dX12_feed_1 (by decide) ?_
  refine nw_put (ty := .int) C in_X12 0 ml_O rfl 0 (by decide) tyX12 tyX12_ok nmX12 tw_1573 rfl rfl (by decide +kernel) rfl rfl (Nat.le_of_ble_eq_true rfl) dX12_feed_2 ms_0 ?_
  refine nw_aload_n C dX12_feed_5 rfl 0 rfl ?_
  refine nw_get (v := .int (σ.1 7)) C in_X12 0 ml_O rfl 7 (by decide) tw_1580 rfl rfl dX12_feed_6 ?_
  refine nw_bipush (v := 20) C dX12_feed_9 (by decide) ?_
  refine nw_iadd C dX12_feed_11 ?_
  refine nw_sipush (v := 400) C dX12_feed_12 (by decide) ?_
  refine nw_icmp_le (tgt := 20) C dX12_feed_15 (by decide) h (fun _ h => ?_) (fun _ h => ?_)
  · refine nw_iconst (v := 0) C dX12_feed_20 (by decide) ?_
    refine nw_istore (lv' := [(6, .int 0), (0, .ref (am 112)), (1, .int p0), (2, .int p1), (3, .int p2), (4, .int p3), (5, .int p4)]) C dX12_feed_21 (by decide) rfl ?_
    exact nw_lv (lv' := [(0, .ref (am 112)), (1, .int p0), (2, .int p1), (3, .int p2), (4, .int p3), (5, .int p4), (6, .int 0)]) [1, 2, 3, 4, 5, 6, 0] rfl (w_M_feed_23 C hr p0 p1 p2 p3 p4 FU 0 _ h)
  · refine nw_iconst (v := (-1)) C dX12_feed_18 (by decide) ?_
    exact nm_iret C hr dX12_feed_19 h
theorem dX12_x_0 : decode cX12_x 0 = .ok (.aload_n 0, 1) := by decide +kernel
theorem dX12_x_1 : decode cX12_x 1 = .ok (.getfield 13, 3) := by decide +kernel
theorem dX12_x_4 : decode cX12_x 4 = .ok (.aload_n 0, 1) := by decide +kernel
theorem dX12_x_5 : decode cX12_x 5 = .ok (.getfield 23, 3) := by decide +kernel
theorem dX12_x_8 : decode cX12_x 8 = .ok (.iload_n 1, 1) := by decide +kernel
theorem dX12_x_9 : decode cX12_x 9 = .ok (.aload_n 0, 1) := by decide +kernel
theorem dX12_x_10 : decode cX12_x 10 = .ok (.getfield 275, 3) := by decide +kernel
theorem dX12_x_13 : decode cX12_x 13 = .ok (.irem, 1) := by decide +kernel
theorem dX12_x_14 : decode cX12_x 14 = .ok (.iaload, 1) := by decide +kernel
theorem dX12_x_15 : decode cX12_x 15 = .ok (.iaload, 1) := by decide +kernel
theorem dX12_x_16 : decode cX12_x 16 = .ok (.ireturn, 1) := by decide +kernel
def f_M_x (p0 : Int32) (σ : CS) : Option (Int32 × CS) := grd (¬ (σ.1 9) = 0) (gix (p0 - p0 / (σ.1 9) * (σ.1 9)) 10 (gix (rd σ 8 (p0 - p0 / (σ.1 9) * (σ.1 9))) 40 (some ((rd σ 4 (rd σ 8 (p0 - p0 / (σ.1 9) * (σ.1 9)))), σ))))
set_option maxHeartbeats 4000000 in
set_option maxRecDepth 100000 in
theorem c_M_x {l : Launch} {g : EG} {am : Nat → Nat} {Rr : va_W} {σ σ' : CS} {r : Int32} {p0 : Int32}  (h : f_M_x p0 σ = some (r, σ')) : CmI l g yX12_x (.code yX12_x cX12_x 2 (some .int)) 0 0 am Rr σ [.ref (am 112), .int p0] r σ' := by
  refine Ct.of rfl (by decide) (Nat.le_of_ble_eq_true rfl) ?_
  intro p e s m args below meth c A C hr
  show NMI g p l e s m args below meth c A 0 0 2 am Rr (r, σ') σ [(0, .ref (am 112)), (1, .int p0)] 0 []
  unfold f_M_x at h
  refine nw_aload_n C dX12_x_0 rfl 0 rfl ?_
  refine nw_get (v := .ref (am 4)) C in_X12 0 ml_O rfl 4 (by decide) tw_1577 rfl mf_4 dX12_x_1 ?_
  refine nw_aload_n C dX12_x_4 rfl 0 rfl ?_
  refine nw_get (v := .ref (am 8)) C in_X12 0 ml_O rfl 8 (by decide) tw_1581 rfl mf_8 dX12_x_5 ?_
  refine nw_iload_n C dX12_x_8 rfl 1 rfl ?_
  refine nw_aload_n C dX12_x_9 rfl 0 rfl ?_
  refine nw_get (v := .int (σ.1 9)) C in_X12 0 ml_O rfl 9 (by decide) tw_1582 rfl mf_9 dX12_x_10 ?_
  refine nw_irem C dX12_x_13 h (fun h => ?_)
  refine nw_iald C 5 ml_8 dX12_x_14 h (fun h => ?_)
  refine nw_iald C 2 ml_4 dX12_x_15 h (fun h => ?_)
  exact nm_iret C hr dX12_x_16 h
theorem dX12_y_0 : decode cX12_y 0 = .ok (.aload_n 0, 1) := by decide +kernel
theorem dX12_y_1 : decode cX12_y 1 = .ok (.getfield 16, 3) := by decide +kernel
theorem dX12_y_4 : decode cX12_y 4 = .ok (.aload_n 0, 1) := by decide +kernel
theorem dX12_y_5 : decode cX12_y 5 = .ok (.getfield 23, 3) := by decide +kernel
theorem dX12_y_8 : decode cX12_y 8 = .ok (.iload_n 1, 1) := by decide +kernel
theorem dX12_y_9 : decode cX12_y 9 = .ok (.aload_n 0, 1) := by decide +kernel
theorem dX12_y_10 : decode cX12_y 10 = .ok (.getfield 275, 3) := by decide +kernel
theorem dX12_y_13 : decode cX12_y 13 = .ok (.irem, 1) := by decide +kernel
theorem dX12_y_14 : decode cX12_y 14 = .ok (.iaload, 1) := by decide +kernel
theorem dX12_y_15 : decode cX12_y 15 = .ok (.iaload, 1) := by decide +kernel
theorem dX12_y_16 : decode cX12_y 16 = .ok (.ireturn, 1) := by decide +kernel
def f_M_y (p0 : Int32) (σ : CS) : Option (Int32 × CS) := grd (¬ (σ.1 9) = 0) (gix (p0 - p0 / (σ.1 9) * (σ.1 9)) 10 (gix (rd σ 8 (p0 - p0 / (σ.1 9) * (σ.1 9))) 40 (some ((rd σ 5 (rd σ 8 (p0 - p0 / (σ.1 9) * (σ.1 9)))), σ))))
set_option maxHeartbeats 4000000 in
set_option maxRecDepth 100000 in
theorem c_M_y {l : Launch} {g : EG} {am : Nat → Nat} {Rr : va_W} {σ σ' : CS} {r : Int32} {p0 : Int32}  (h : f_M_y p0 σ = some (r, σ')) : CmI l g yX12_y (.code yX12_y cX12_y 2 (some .int)) 0 0 am Rr σ [.ref (am 112), .int p0] r σ' := by
  refine Ct.of rfl (by decide) (Nat.le_of_ble_eq_true rfl) ?_
  intro p e s m args below meth c A C hr
  show NMI g p l e s m args below meth c A 0 0 2 am Rr (r, σ') σ [(0, .ref (am 112)), (1, .int p0)] 0 []
  unfold f_M_y at h
  refine nw_aload_n C dX12_y_0 rfl 0 rfl ?_
  refine nw_get (v := .ref (am 5)) C in_X12 0 ml_O rfl 5 (by decide) tw_1578 rfl mf_5 dX12_y_1 ?_
  refine nw_aload_n C dX12_y_4 rfl 0 rfl ?_
  refine nw_get (v := .ref (am 8)) C in_X12 0 ml_O rfl 8 (by decide) tw_1581 rfl mf_8 dX12_y_5 ?_
  refine nw_iload_n C dX12_y_8 rfl 1 rfl ?_
  refine nw_aload_n C dX12_y_9 rfl 0 rfl ?_
  refine nw_get (v := .int (σ.1 9)) C in_X12 0 ml_O rfl 9 (by decide) tw_1582 rfl mf_9 dX12_y_10 ?_
  refine nw_irem C dX12_y_13 h (fun h => ?_)
  refine nw_iald C 5 ml_8 dX12_y_14 h (fun h => ?_)
  refine nw_iald C 3 ml_5 dX12_y_15 h (fun h => ?_)
  exact nm_iret C hr dX12_y_16 h
theorem dX12_turn_0 : decode cX12_turn 0 = .ok (.iload_n 2, 1) := by decide +kernel
theorem dX12_turn_1 : decode cX12_turn 1 = .ok (.iload_n 0, 1) := by decide +kernel
theorem dX12_turn_2 : decode cX12_turn 2 = .ok (.isub, 1) := by decide +kernel
theorem dX12_turn_3 : decode cX12_turn 3 = .ok (.iload 5, 2) := by decide +kernel
theorem dX12_turn_5 : decode cX12_turn 5 = .ok (.iload_n 1, 1) := by decide +kernel
theorem dX12_turn_6 : decode cX12_turn 6 = .ok (.isub, 1) := by decide +kernel
theorem dX12_turn_7 : decode cX12_turn 7 = .ok (.imul, 1) := by decide +kernel
theorem dX12_turn_8 : decode cX12_turn 8 = .ok (.iload_n 3, 1) := by decide +kernel
theorem dX12_turn_9 : decode cX12_turn 9 = .ok (.iload_n 1, 1) := by decide +kernel
theorem dX12_turn_10 : decode cX12_turn 10 = .ok (.isub, 1) := by decide +kernel
theorem dX12_turn_11 : decode cX12_turn 11 = .ok (.iload 4, 2) := by decide +kernel
theorem dX12_turn_13 : decode cX12_turn 13 = .ok (.iload_n 0, 1) := by decide +kernel
theorem dX12_turn_14 : decode cX12_turn 14 = .ok (.isub, 1) := by decide +kernel
theorem dX12_turn_15 : decode cX12_turn 15 = .ok (.imul, 1) := by decide +kernel
theorem dX12_turn_16 : decode cX12_turn 16 = .ok (.isub, 1) := by decide +kernel
theorem dX12_turn_17 : decode cX12_turn 17 = .ok (.istore 6, 2) := by decide +kernel
theorem dX12_turn_19 : decode cX12_turn 19 = .ok (.iload 6, 2) := by decide +kernel
theorem dX12_turn_21 : decode cX12_turn 21 = .ok (.ifCond .ge 7, 3) := by decide +kernel
theorem dX12_turn_24 : decode cX12_turn 24 = .ok (.iconst (-1), 1) := by decide +kernel
theorem dX12_turn_25 : decode cX12_turn 25 = .ok (.goto 13, 3) := by decide +kernel
theorem dX12_turn_28 : decode cX12_turn 28 = .ok (.iload 6, 2) := by decide +kernel
theorem dX12_turn_30 : decode cX12_turn 30 = .ok (.ifCond .le 7, 3) := by decide +kernel
theorem dX12_turn_33 : decode cX12_turn 33 = .ok (.iconst 1, 1) := by decide +kernel
theorem dX12_turn_34 : decode cX12_turn 34 = .ok (.goto 4, 3) := by decide +kernel
theorem dX12_turn_37 : decode cX12_turn 37 = .ok (.iconst 0, 1) := by decide +kernel
theorem dX12_turn_38 : decode cX12_turn 38 = .ok (.ireturn, 1) := by decide +kernel
def f_M_turn (p0 : Int32) (p1 : Int32) (p2 : Int32) (p3 : Int32) (p4 : Int32) (p5 : Int32) (σ : CS) : Option (Int32 × CS) := if 0 ≤ (((p2 - p0) * (p5 - p1)) - ((p3 - p1) * (p4 - p0))) then if (((p2 - p0) * (p5 - p1)) - ((p3 - p1) * (p4 - p0))) ≤ 0 then some (0, σ) else some (1, σ) else some ((-1), σ)
set_option maxHeartbeats 4000000 in
set_option maxRecDepth 100000 in
theorem c_M_turn {l : Launch} {g : EG} {am : Nat → Nat} {Rr : va_W} {σ σ' : CS} {r : Int32} {p0 : Int32} {p1 : Int32} {p2 : Int32} {p3 : Int32} {p4 : Int32} {p5 : Int32}  (h : f_M_turn p0 p1 p2 p3 p4 p5 σ = some (r, σ')) : CmI l g yX12_turn (.code yX12_turn cX12_turn 7 (some .int)) 0 0 am Rr σ [.int p0, .int p1, .int p2, .int p3, .int p4, .int p5] r σ' := by
  refine Ct.of rfl (by decide) (Nat.le_of_ble_eq_true rfl) ?_
  intro p e s m args below meth c A C hr
  show NMI g p l e s m args below meth c A 0 0 7 am Rr (r, σ') σ [(0, .int p0), (1, .int p1), (2, .int p2), (3, .int p3), (4, .int p4), (5, .int p5)] 0 []
  unfold f_M_turn at h
  refine nw_iload_n C dX12_turn_0 rfl 2 rfl ?_
  refine nw_iload_n C dX12_turn_1 rfl 0 rfl ?_
  refine nw_isub C dX12_turn_2 ?_
  refine nw_iload C dX12_turn_3 5 rfl ?_
  refine nw_iload_n C dX12_turn_5 rfl 1 rfl ?_
  refine nw_isub C dX12_turn_6 ?_
  refine nw_imul C dX12_turn_7 ?_
  refine nw_iload_n C dX12_turn_8 rfl 3 rfl ?_
  refine nw_iload_n C dX12_turn_9 rfl 1 rfl ?_
  refine nw_isub C dX12_turn_10 ?_
  refine nw_iload C dX12_turn_11 4 rfl ?_
  refine nw_iload_n C dX12_turn_13 rfl 0 rfl ?_
  refine nw_isub C dX12_turn_14 ?_
  refine nw_imul C dX12_turn_15 ?_
  refine nw_isub C dX12_turn_16 ?_
  refine nw_istore (lv' := [(6, .int (((p2 - p0) * (p5 - p1)) - ((p3 - p1) * (p4 - p0)))), (0, .int p0), (1, .int p1), (2, .int p2), (3, .int p3), (4, .int p4), (5, .int p5)]) C dX12_turn_17 (by decide) rfl ?_
  refine nw_iload C dX12_turn_19 0 rfl ?_
  refine nw_if_ge (tgt := 28) C dX12_turn_21 (by decide) h (fun _ h => ?_) (fun _ h => ?_)
  · refine nw_iload C dX12_turn_28 0 rfl ?_
    refine nw_if_le (tgt := 37) C dX12_turn_30 (by decide) h (fun _ h => ?_) (fun _ h => ?_)
    · refine nw_iconst (v := 0) C dX12_turn_37 (by decide) ?_
      exact nm_iret C hr dX12_turn_38 h
    · refine nw_iconst (v := 1) C dX12_turn_33 (by decide) ?_
      refine nw_goto (tgt := 38) C dX12_turn_34 (by decide) ?_
      exact nm_iret C hr dX12_turn_38 h
  · refine nw_iconst (v := (-1)) C dX12_turn_24 (by decide) ?_
    refine nw_goto (tgt := 38) C dX12_turn_25 (by decide) ?_
    exact nm_iret C hr dX12_turn_38 h
theorem dX12_isBetween_0 : decode cX12_isBetween 0 = .ok (.iload_n 1, 1) := by decide +kernel
theorem dX12_isBetween_1 : decode cX12_isBetween 1 = .ok (.iload_n 2, 1) := by decide +kernel
theorem dX12_isBetween_2 : decode cX12_isBetween 2 = .ok (.if_icmp .ge 21, 3) := by decide +kernel
theorem dX12_isBetween_5 : decode cX12_isBetween 5 = .ok (.iload_n 0, 1) := by decide +kernel
theorem dX12_isBetween_6 : decode cX12_isBetween 6 = .ok (.iload_n 1, 1) := by decide +kernel
theorem dX12_isBetween_7 : decode cX12_isBetween 7 = .ok (.if_icmp .lt 12, 3) := by decide +kernel
theorem dX12_isBetween_10 : decode cX12_isBetween 10 = .ok (.iload_n 0, 1) := by decide +kernel
theorem dX12_isBetween_11 : decode cX12_isBetween 11 = .ok (.iload_n 2, 1) := by decide +kernel
theorem dX12_isBetween_12 : decode cX12_isBetween 12 = .ok (.if_icmp .gt 7, 3) := by decide +kernel
theorem dX12_isBetween_15 : decode cX12_isBetween 15 = .ok (.iconst 1, 1) := by decide +kernel
theorem dX12_isBetween_16 : decode cX12_isBetween 16 = .ok (.goto 22, 3) := by decide +kernel
theorem dX12_isBetween_19 : decode cX12_isBetween 19 = .ok (.iconst 0, 1) := by decide +kernel
theorem dX12_isBetween_20 : decode cX12_isBetween 20 = .ok (.goto 18, 3) := by decide +kernel
theorem dX12_isBetween_23 : decode cX12_isBetween 23 = .ok (.iload_n 0, 1) := by decide +kernel
theorem dX12_isBetween_24 : decode cX12_isBetween 24 = .ok (.iload_n 2, 1) := by decide +kernel
theorem dX12_isBetween_25 : decode cX12_isBetween 25 = .ok (.if_icmp .lt 12, 3) := by decide +kernel
theorem dX12_isBetween_28 : decode cX12_isBetween 28 = .ok (.iload_n 0, 1) := by decide +kernel
theorem dX12_isBetween_29 : decode cX12_isBetween 29 = .ok (.iload_n 1, 1) := by decide +kernel
theorem dX12_isBetween_30 : decode cX12_isBetween 30 = .ok (.if_icmp .gt 7, 3) := by decide +kernel
theorem dX12_isBetween_33 : decode cX12_isBetween 33 = .ok (.iconst 1, 1) := by decide +kernel
theorem dX12_isBetween_34 : decode cX12_isBetween 34 = .ok (.goto 4, 3) := by decide +kernel
theorem dX12_isBetween_37 : decode cX12_isBetween 37 = .ok (.iconst 0, 1) := by decide +kernel
theorem dX12_isBetween_38 : decode cX12_isBetween 38 = .ok (.ireturn, 1) := by decide +kernel
def f_M_isBetween (p0 : Int32) (p1 : Int32) (p2 : Int32) (σ : CS) : Option (Int32 × CS) := if p2 ≤ p1 then if p0 < p2 then some (0, σ) else if p1 < p0 then some (0, σ) else some (1, σ) else if p0 < p1 then some (0, σ) else if p2 < p0 then some (0, σ) else some (1, σ)
set_option maxHeartbeats 4000000 in
set_option maxRecDepth 100000 in
theorem c_M_isBetween {l : Launch} {g : EG} {am : Nat → Nat} {Rr : va_W} {σ σ' : CS} {r : Int32} {p0 : Int32} {p1 : Int32} {p2 : Int32}  (h : f_M_isBetween p0 p1 p2 σ = some (r, σ')) : CmI l g yX12_isBetween (.code yX12_isBetween cX12_isBetween 3 (some .boolean)) 0 0 am Rr σ [.int p0, .int p1, .int p2] r σ' := by
  refine Ct.of rfl (by decide) (Nat.le_of_ble_eq_true rfl) ?_
  intro p e s m args below meth c A C hr
  show NMI g p l e s m args below meth c A 0 0 3 am Rr (r, σ') σ [(0, .int p0), (1, .int p1), (2, .int p2)] 0 []
  unfold f_M_isBetween at h
  refine nw_iload_n C dX12_isBetween_0 rfl 1 rfl ?_
  refine nw_iload_n C dX12_isBetween_1 rfl 2 rfl ?_
  refine nw_icmp_ge (tgt := 23) C dX12_isBetween_2 (by decide) h (fun _ h => ?_) (fun _ h => ?_)
  · refine nw_iload_n C dX12_isBetween_23 rfl 0 rfl ?_
    refine nw_iload_n C dX12_isBetween_24 rfl 2 rfl ?_
    refine nw_icmp_lt (tgt := 37) C dX12_isBetween_25 (by decide) h (fun _ h => ?_) (fun _ h => ?_)
    · refine nw_iconst (v := 0) C dX12_isBetween_37 (by decide) ?_
      exact nm_zret C hr (Or.inl rfl) dX12_isBetween_38 h
    · refine nw_iload_n C dX12_isBetween_28 rfl 0 rfl ?_
      refine nw_iload_n C dX12_isBetween_29 rfl 1 rfl ?_
      refine nw_icmp_gt (tgt := 37) C dX12_isBetween_30 (by decide) h (fun _ h => ?_) (fun _ h => ?_)
      · refine nw_iconst (v := 0) C dX12_isBetween_37 (by decide) ?_
        exact nm_zret C hr (Or.inl rfl) dX12_isBetween_38 h
      · refine nw_iconst (v := 1) C dX12_isBetween_33 (by decide) ?_
        refine nw_goto (tgt := 38) C dX12_isBetween_34 (by decide) ?_
        exact nm_zret C hr (Or.inr rfl) dX12_isBetween_38 h
  · refine nw_iload_n C dX12_isBetween_5 rfl 0 rfl ?_
    refine nw_iload_n C dX12_isBetween_6 rfl 1 rfl ?_
    refine nw_icmp_lt (tgt := 19) C dX12_isBetween_7 (by decide) h (fun _ h => ?_) (fun _ h => ?_)
    · refine nw_iconst (v := 0) C dX12_isBetween_19 (by decide) ?_
      refine nw_goto (tgt := 38) C dX12_isBetween_20 (by decide) ?_
      exact nm_zret C hr (Or.inl rfl) dX12_isBetween_38 h
    · refine nw_iload_n C dX12_isBetween_10 rfl 0 rfl ?_
      refine nw_iload_n C dX12_isBetween_11 rfl 2 rfl ?_
      refine nw_icmp_gt (tgt := 19) C dX12_isBetween_12 (by decide) h (fun _ h => ?_) (fun _ h => ?_)
      · refine nw_iconst (v := 0) C dX12_isBetween_19 (by decide) ?_
        refine nw_goto (tgt := 38) C dX12_isBetween_20 (by decide) ?_
        exact nm_zret C hr (Or.inl rfl) dX12_isBetween_38 h
      · refine nw_iconst (v := 1) C dX12_isBetween_15 (by decide) ?_
        refine nw_goto (tgt := 38) C dX12_isBetween_16 (by decide) ?_
        exact nm_zret C hr (Or.inr rfl) dX12_isBetween_38 h
theorem dX12_isOn_0 : decode cX12_isOn 0 = .ok (.aload_n 0, 1) := by decide +kernel
theorem dX12_isOn_1 : decode cX12_isOn 1 = .ok (.iload_n 1, 1) := by decide +kernel
theorem dX12_isOn_2 : decode cX12_isOn 2 = .ok (.invokevirtual 278, 3) := by decide +kernel
theorem dX12_isOn_5 : decode cX12_isOn 5 = .ok (.aload_n 0, 1) := by decide +kernel
theorem dX12_isOn_6 : decode cX12_isOn 6 = .ok (.iload_n 1, 1) := by decide +kernel
theorem dX12_isOn_7 : decode cX12_isOn 7 = .ok (.invokevirtual 282, 3) := by decide +kernel
theorem dX12_isOn_10 : decode cX12_isOn 10 = .ok (.aload_n 0, 1) := by decide +kernel
theorem dX12_isOn_11 : decode cX12_isOn 11 = .ok (.iload_n 1, 1) := by decide +kernel
theorem dX12_isOn_12 : decode cX12_isOn 12 = .ok (.iconst 1, 1) := by decide +kernel
theorem dX12_isOn_13 : decode cX12_isOn 13 = .ok (.iadd, 1) := by decide +kernel
theorem dX12_isOn_14 : decode cX12_isOn 14 = .ok (.invokevirtual 278, 3) := by decide +kernel
theorem dX12_isOn_17 : decode cX12_isOn 17 = .ok (.aload_n 0, 1) := by decide +kernel
theorem dX12_isOn_18 : decode cX12_isOn 18 = .ok (.iload_n 1, 1) := by decide +kernel
theorem dX12_isOn_19 : decode cX12_isOn 19 = .ok (.iconst 1, 1) := by decide +kernel
theorem dX12_isOn_20 : decode cX12_isOn 20 = .ok (.iadd, 1) := by decide +kernel
theorem dX12_isOn_21 : decode cX12_isOn 21 = .ok (.invokevirtual 282, 3) := by decide +kernel
theorem dX12_isOn_24 : decode cX12_isOn 24 = .ok (.iload_n 2, 1) := by decide +kernel
theorem dX12_isOn_25 : decode cX12_isOn 25 = .ok (.iload_n 3, 1) := by decide +kernel
theorem dX12_isOn_26 : decode cX12_isOn 26 = .ok (.invokestatic 285, 3) := by decide +kernel
theorem dX12_isOn_29 : decode cX12_isOn 29 = .ok (.ifCond .ne 45, 3) := by decide +kernel
theorem dX12_isOn_32 : decode cX12_isOn 32 = .ok (.iload_n 2, 1) := by decide +kernel
theorem dX12_isOn_33 : decode cX12_isOn 33 = .ok (.aload_n 0, 1) := by decide +kernel
theorem dX12_isOn_34 : decode cX12_isOn 34 = .ok (.iload_n 1, 1) := by decide +kernel
theorem dX12_isOn_35 : decode cX12_isOn 35 = .ok (.invokevirtual 278, 3) := by decide +kernel
theorem dX12_isOn_38 : decode cX12_isOn 38 = .ok (.aload_n 0, 1) := by decide +kernel
theorem dX12_isOn_39 : decode cX12_isOn 39 = .ok (.iload_n 1, 1) := by decide +kernel
theorem dX12_isOn_40 : decode cX12_isOn 40 = .ok (.iconst 1, 1) := by decide +kernel
theorem dX12_isOn_41 : decode cX12_isOn 41 = .ok (.iadd, 1) := by decide +kernel
theorem dX12_isOn_42 : decode cX12_isOn 42 = .ok (.invokevirtual 278, 3) := by decide +kernel
theorem dX12_isOn_45 : decode cX12_isOn 45 = .ok (.invokestatic 289, 3) := by decide +kernel
theorem dX12_isOn_48 : decode cX12_isOn 48 = .ok (.ifCond .eq 26, 3) := by decide +kernel
theorem dX12_isOn_51 : decode cX12_isOn 51 = .ok (.iload_n 3, 1) := by decide +kernel
theorem dX12_isOn_52 : decode cX12_isOn 52 = .ok (.aload_n 0, 1) := by decide +kernel
theorem dX12_isOn_53 : decode cX12_isOn 53 = .ok (.iload_n 1, 1) := by decide +kernel
theorem dX12_isOn_54 : decode cX12_isOn 54 = .ok (.invokevirtual 282, 3) := by decide +kernel
theorem dX12_isOn_57 : decode cX12_isOn 57 = .ok (.aload_n 0, 1) := by decide +kernel
theorem dX12_isOn_58 : decode cX12_isOn 58 = .ok (.iload_n 1, 1) := by decide +kernel
theorem dX12_isOn_59 : decode cX12_isOn 59 = .ok (.iconst 1, 1) := by decide +kernel
theorem dX12_isOn_60 : decode cX12_isOn 60 = .ok (.iadd, 1) := by decide +kernel
theorem dX12_isOn_61 : decode cX12_isOn 61 = .ok (.invokevirtual 282, 3) := by decide +kernel
theorem dX12_isOn_64 : decode cX12_isOn 64 = .ok (.invokestatic 289, 3) := by decide +kernel
theorem dX12_isOn_67 : decode cX12_isOn 67 = .ok (.ifCond .eq 7, 3) := by decide +kernel
theorem dX12_isOn_70 : decode cX12_isOn 70 = .ok (.iconst 1, 1) := by decide +kernel
theorem dX12_isOn_71 : decode cX12_isOn 71 = .ok (.goto 4, 3) := by decide +kernel
theorem dX12_isOn_74 : decode cX12_isOn 74 = .ok (.iconst 0, 1) := by decide +kernel
theorem dX12_isOn_75 : decode cX12_isOn 75 = .ok (.ireturn, 1) := by decide +kernel
def f_M_isOn (p0 : Int32) (p1 : Int32) (p2 : Int32) (σ : CS) : Option (Int32 × CS) := bnd (f_M_x p0 σ) (fun r2 σ2 => bnd (f_M_y p0 σ2) (fun r7 σ7 => bnd (f_M_x (p0 + 1) σ7) (fun r14 σ14 => bnd (f_M_y (p0 + 1) σ14) (fun r21 σ21 => bnd (f_M_turn r2 r7 r14 r21 p1 p2 σ21) (fun r26 σ26 => if r26 = 0 then bnd (f_M_x p0 σ26) (fun r35 σ35 => bnd (f_M_x (p0 + 1) σ35) (fun r42 σ42 => bnd (f_M_isBetween p1 r35 r42 σ42) (fun r45 σ45 => if r45 = 0 then some (0, σ45) else bnd (f_M_y p0 σ45) (fun r54 σ54 => bnd (f_M_y (p0 + 1) σ54) (fun r61 σ61 => bnd (f_M_isBetween p2 r54 r61 σ61) (fun r64 σ64 => if r64 = 0 then some (0, σ64) else some (1, σ64))))))) else some (0, σ26))))))
set_option maxHeartbeats 4000000 in
set_option maxRecDepth 100000 in
theorem c_M_isOn {l : Launch} {g : EG} {am : Nat → Nat} {Rr : va_W} {σ σ' : CS} {r : Int32} {p0 : Int32} {p1 : Int32} {p2 : Int32}  (h : f_M_isOn p0 p1 p2 σ = some (r, σ')) : CmI l g yX12_isOn (.code yX12_isOn cX12_isOn 4 (some .boolean)) 1 26 am Rr σ [.ref (am 112), .int p0, .int p1, .int p2] r σ' := by
  refine Ct.of rfl (by decide) (Nat.le_of_ble_eq_true rfl) ?_
  intro p e s m args below meth c A C hr
  show NMI g p l e s m args below meth c A 1 26 4 am Rr (r, σ') σ [(0, .ref (am 112)), (1, .int p0), (2, .int p1), (3, .int p2)] 0 []
  unfold f_M_isOn at h
  refine nw_aload_n C dX12_isOn_0 rfl 0 rfl ?_
  refine nw_iload_n C dX12_isOn_1 rfl 1 rfl ?_
  refine nm_callVI (q0 := 0) (As := [.int p0]) (rest := []) C h (fun _ _ e => c_M_x e) tw_1944 kv_X12_x ml_O rfl ⟨Nat.le_of_ble_eq_true rfl, Nat.le_of_ble_eq_true rfl⟩ rfl dX12_isOn_2 rfl (Nat.le_of_ble_eq_true rfl) (fun r2 σ2 h => ?_)
  refine nw_aload_n C dX12_isOn_5 rfl 0 rfl ?_
  refine nw_iload_n C dX12_isOn_6 rfl 1 rfl ?_
  refine nm_callVI (q0 := 0) (As := [.int p0]) (rest := [.int r2]) C h (fun _ _ e => c_M_y e) tw_1948 kv_X12_y ml_O rfl ⟨Nat.le_of_ble_eq_true rfl, Nat.le_of_ble_eq_true rfl⟩ rfl dX12_isOn_7 rfl (Nat.le_of_ble_eq_true rfl) (fun r7 σ7 h => ?_)
  refine nw_aload_n C dX12_isOn_10 rfl 0 rfl ?_
  refine nw_iload_n C dX12_isOn_11 rfl 1 rfl ?_
  refine nw_iconst (v := 1) C dX12_isOn_12 (by decide) ?_
  refine nw_iadd C dX12_isOn_13 ?_
  refine nm_callVI (q0 := 0) (As := [.int (p0 + 1)]) (rest := [.int r7, .int r2]) C h (fun _ _ e => c_M_x e) tw_1944 kv_X12_x ml_O rfl ⟨Nat.le_of_ble_eq_true rfl, Nat.le_of_ble_eq_true rfl⟩ rfl dX12_isOn_14 rfl (Nat.le_of_ble_eq_true rfl) (fun r14 σ14 h => ?_)
  refine nw_aload_n C dX12_isOn_17 rfl 0 rfl ?_
  refine nw_iload_n C dX12_isOn_18 rfl 1 rfl ?_
  refine nw_iconst (v := 1) C dX12_isOn_19 (by decide) ?_
  refine nw_iadd C dX12_isOn_20 ?_
  refine nm_callVI (q0 := 0) (As := [.int (p0 + 1)]) (rest := [.int r14, .int r7, .int r2]) C h (fun _ _ e => c_M_y e) tw_1948 kv_X12_y ml_O rfl ⟨Nat.le_of_ble_eq_true rfl, Nat.le_of_ble_eq_true rfl⟩ rfl dX12_isOn_21 rfl (Nat.le_of_ble_eq_true rfl) (fun r21 σ21 h => ?_)
  refine nw_iload_n C dX12_isOn_24 rfl 2 rfl ?_
  refine nw_iload_n C dX12_isOn_25 rfl 3 rfl ?_
  refine nm_callSI  (As := [.int r2, .int r7, .int r14, .int r21, .int p1, .int p2]) (rest := []) C h (fun _ _ e => c_M_turn e) tw_1956 ks_X12_turn ⟨Nat.le_of_ble_eq_true rfl, Nat.le_of_ble_eq_true rfl⟩ rfl dX12_isOn_26 rfl (Nat.le_of_ble_eq_true rfl) (fun r26 σ26 h => ?_)
  refine nw_if_ne (tgt := 74) C dX12_isOn_29 (by decide) h (fun _ h => ?_) (fun _ h => ?_)
  · refine nw_iload_n C dX12_isOn_32 rfl 2 rfl ?_
    refine nw_aload_n C dX12_isOn_33 rfl 0 rfl ?_
    refine nw_iload_n C dX12_isOn_34 rfl 1 rfl ?_
    refine nm_callVI (q0 := 0) (As := [.int p0]) (rest := [.int p1]) C h (fun _ _ e => c_M_x e) tw_1944 kv_X12_x ml_O rfl ⟨Nat.le_of_ble_eq_true rfl, Nat.le_of_ble_eq_true rfl⟩ rfl dX12_isOn_35 rfl (Nat.le_of_ble_eq_true rfl) (fun r35 σ35 h => ?_)
    refine nw_aload_n C dX12_isOn_38 rfl 0 rfl ?_
    refine nw_iload_n C dX12_isOn_39 rfl 1 rfl ?_
    refine nw_iconst (v := 1) C dX12_isOn_40 (by decide) ?_
    refine nw_iadd C dX12_isOn_41 ?_
    refine nm_callVI (q0 := 0) (As := [.int (p0 + 1)]) (rest := [.int r35, .int p1]) C h (fun _ _ e => c_M_x e) tw_1944 kv_X12_x ml_O rfl ⟨Nat.le_of_ble_eq_true rfl, Nat.le_of_ble_eq_true rfl⟩ rfl dX12_isOn_42 rfl (Nat.le_of_ble_eq_true rfl) (fun r42 σ42 h => ?_)
    refine nm_callSI  (As := [.int p1, .int r35, .int r42]) (rest := []) C h (fun _ _ e => c_M_isBetween e) tw_1959 ks_X12_isBetween ⟨Nat.le_of_ble_eq_true rfl, Nat.le_of_ble_eq_true rfl⟩ rfl dX12_isOn_45 rfl (Nat.le_of_ble_eq_true rfl) (fun r45 σ45 h => ?_)
    refine nw_if_eq (tgt := 74) C dX12_isOn_48 (by decide) h (fun _ h => ?_) (fun _ h => ?_)
    · refine nw_iconst (v := 0) C dX12_isOn_74 (by decide) ?_
      exact nm_zret C hr (Or.inl rfl) dX12_isOn_75 h
    · refine nw_iload_n C dX12_isOn_51 rfl 3 rfl ?_
      refine nw_aload_n C dX12_isOn_52 rfl 0 rfl ?_
      refine nw_iload_n C dX12_isOn_53 rfl 1 rfl ?_
      refine nm_callVI (q0 := 0) (As := [.int p0]) (rest := [.int p2]) C h (fun _ _ e => c_M_y e) tw_1948 kv_X12_y ml_O rfl ⟨Nat.le_of_ble_eq_true rfl, Nat.le_of_ble_eq_true rfl⟩ rfl dX12_isOn_54 rfl (Nat.le_of_ble_eq_true rfl) (fun r54 σ54 h => ?_)
      refine nw_aload_n C dX12_isOn_57 rfl 0 rfl ?_
      refine nw_iload_n C dX12_isOn_58 rfl 1 rfl ?_
      refine nw_iconst (v := 1) C dX12_isOn_59 (by decide) ?_
      refine nw_iadd C dX12_isOn_60 ?_
      refine nm_callVI (q0 := 0) (As := [.int (p0 + 1)]) (rest := [.int r54, .int p2]) C h (fun _ _ e => c_M_y e) tw_1948 kv_X12_y ml_O rfl ⟨Nat.le_of_ble_eq_true rfl, Nat.le_of_ble_eq_true rfl⟩ rfl dX12_isOn_61 rfl (Nat.le_of_ble_eq_true rfl) (fun r61 σ61 h => ?_)
      refine nm_callSI  (As := [.int p2, .int r54, .int r61]) (rest := []) C h (fun _ _ e => c_M_isBetween e) tw_1959 ks_X12_isBetween ⟨Nat.le_of_ble_eq_true rfl, Nat.le_of_ble_eq_true rfl⟩ rfl dX12_isOn_64 rfl (Nat.le_of_ble_eq_true rfl) (fun r64 σ64 h => ?_)
      refine nw_if_eq (tgt := 74) C dX12_isOn_67 (by decide) h (fun _ h => ?_) (fun _ h => ?_)
      · refine nw_iconst (v := 0) C dX12_isOn_74 (by decide) ?_
        exact nm_zret C hr (Or.inl rfl) dX12_isOn_75 h
      · refine nw_iconst (v := 1) C dX12_isOn_70 (by decide) ?_
        refine nw_goto (tgt := 75) C dX12_isOn_71 (by decide) ?_
        exact nm_zret C hr (Or.inr rfl) dX12_isOn_75 h
  · refine nw_iconst (v := 0) C dX12_isOn_74 (by decide) ?_
    exact nm_zret C hr (Or.inl rfl) dX12_isOn_75 h
theorem dX12_isMet_0 : decode cX12_isMet 0 = .ok (.aload_n 0, 1) := by decide +kernel
theorem dX12_isMet_1 : decode cX12_isMet 1 = .ok (.iload_n 1, 1) := by decide +kernel
theorem dX12_isMet_2 : decode cX12_isMet 2 = .ok (.aload_n 0, 1) := by decide +kernel
theorem dX12_isMet_3 : decode cX12_isMet 3 = .ok (.iload_n 2, 1) := by decide +kernel
theorem dX12_isMet_4 : decode cX12_isMet 4 = .ok (.invokevirtual 278, 3) := by decide +kernel
theorem dX12_isMet_7 : decode cX12_isMet 7 = .ok (.aload_n 0, 1) := by decide +kernel
theorem dX12_isMet_8 : decode cX12_isMet 8 = .ok (.iload_n 2, 1) := by decide +kernel
theorem dX12_isMet_9 : decode cX12_isMet 9 = .ok (.invokevirtual 282, 3) := by decide +kernel
theorem dX12_isMet_12 : decode cX12_isMet 12 = .ok (.invokevirtual 292, 3) := by decide +kernel
theorem dX12_isMet_15 : decode cX12_isMet 15 = .ok (.ifCond .ne 65, 3) := by decide +kernel
theorem dX12_isMet_18 : decode cX12_isMet 18 = .ok (.aload_n 0, 1) := by decide +kernel
theorem dX12_isMet_19 : decode cX12_isMet 19 = .ok (.iload_n 1, 1) := by decide +kernel
theorem dX12_isMet_20 : decode cX12_isMet 20 = .ok (.aload_n 0, 1) := by decide +kernel
theorem dX12_isMet_21 : decode cX12_isMet 21 = .ok (.iload_n 2, 1) := by decide +kernel
theorem dX12_isMet_22 : decode cX12_isMet 22 = .ok (.iconst 1, 1) := by decide +kernel
theorem dX12_isMet_23 : decode cX12_isMet 23 = .ok (.iadd, 1) := by decide +kernel
theorem dX12_isMet_24 : decode cX12_isMet 24 = .ok (.invokevirtual 278, 3) := by decide +kernel
theorem dX12_isMet_27 : decode cX12_isMet 27 = .ok (.aload_n 0, 1) := by decide +kernel
theorem dX12_isMet_28 : decode cX12_isMet 28 = .ok (.iload_n 2, 1) := by decide +kernel
theorem dX12_isMet_29 : decode cX12_isMet 29 = .ok (.iconst 1, 1) := by decide +kernel
theorem dX12_isMet_30 : decode cX12_isMet 30 = .ok (.iadd, 1) := by decide +kernel
theorem dX12_isMet_31 : decode cX12_isMet 31 = .ok (.invokevirtual 282, 3) := by decide +kernel
theorem dX12_isMet_34 : decode cX12_isMet 34 = .ok (.invokevirtual 292, 3) := by decide +kernel
theorem dX12_isMet_37 : decode cX12_isMet 37 = .ok (.ifCond .ne 43, 3) := by decide +kernel
theorem dX12_isMet_40 : decode cX12_isMet 40 = .ok (.aload_n 0, 1) := by decide +kernel
theorem dX12_isMet_41 : decode cX12_isMet 41 = .ok (.iload_n 2, 1) := by decide +kernel
theorem dX12_isMet_42 : decode cX12_isMet 42 = .ok (.aload_n 0, 1) := by decide +kernel
theorem dX12_isMet_43 : decode cX12_isMet 43 = .ok (.iload_n 1, 1) := by decide +kernel
theorem dX12_isMet_44 : decode cX12_isMet 44 = .ok (.invokevirtual 278, 3) := by decide +kernel
theorem dX12_isMet_47 : decode cX12_isMet 47 = .ok (.aload_n 0, 1) := by decide +kernel
theorem dX12_isMet_48 : decode cX12_isMet 48 = .ok (.iload_n 1, 1) := by decide +kernel
theorem dX12_isMet_49 : decode cX12_isMet 49 = .ok (.invokevirtual 282, 3) := by decide +kernel
theorem dX12_isMet_52 : decode cX12_isMet 52 = .ok (.invokevirtual 292, 3) := by decide +kernel
theorem dX12_isMet_55 : decode cX12_isMet 55 = .ok (.ifCond .ne 25, 3) := by decide +kernel
theorem dX12_isMet_58 : decode cX12_isMet 58 = .ok (.aload_n 0, 1) := by decide +kernel
theorem dX12_isMet_59 : decode cX12_isMet 59 = .ok (.iload_n 2, 1) := by decide +kernel
theorem dX12_isMet_60 : decode cX12_isMet 60 = .ok (.aload_n 0, 1) := by decide +kernel
theorem dX12_isMet_61 : decode cX12_isMet 61 = .ok (.iload_n 1, 1) := by decide +kernel
theorem dX12_isMet_62 : decode cX12_isMet 62 = .ok (.iconst 1, 1) := by decide +kernel
theorem dX12_isMet_63 : decode cX12_isMet 63 = .ok (.iadd, 1) := by decide +kernel
theorem dX12_isMet_64 : decode cX12_isMet 64 = .ok (.invokevirtual 278, 3) := by decide +kernel
theorem dX12_isMet_67 : decode cX12_isMet 67 = .ok (.aload_n 0, 1) := by decide +kernel
theorem dX12_isMet_68 : decode cX12_isMet 68 = .ok (.iload_n 1, 1) := by decide +kernel
theorem dX12_isMet_69 : decode cX12_isMet 69 = .ok (.iconst 1, 1) := by decide +kernel
theorem dX12_isMet_70 : decode cX12_isMet 70 = .ok (.iadd, 1) := by decide +kernel
theorem dX12_isMet_71 : decode cX12_isMet 71 = .ok (.invokevirtual 282, 3) := by decide +kernel
theorem dX12_isMet_74 : decode cX12_isMet 74 = .ok (.invokevirtual 292, 3) := by decide +kernel
theorem dX12_isMet_77 : decode cX12_isMet 77 = .ok (.ifCond .eq 5, 3) := by decide +kernel
theorem dX12_isMet_80 : decode cX12_isMet 80 = .ok (.iconst 1, 1) := by decide +kernel
theorem dX12_isMet_81 : decode cX12_isMet 81 = .ok (.ireturn, 1) := by decide +kernel
theorem dX12_isMet_82 : decode cX12_isMet 82 = .ok (.aload_n 0, 1) := by decide +kernel
theorem dX12_isMet_83 : decode cX12_isMet 83 = .ok (.iload_n 1, 1) := by decide +kernel
theorem dX12_isMet_84 : decode cX12_isMet 84 = .ok (.invokevirtual 278, 3) := by decide +kernel
theorem dX12_isMet_87 : decode cX12_isMet 87 = .ok (.aload_n 0, 1) := by decide +kernel
theorem dX12_isMet_88 : decode cX12_isMet 88 = .ok (.iload_n 1, 1) := by decide +kernel
theorem dX12_isMet_89 : decode cX12_isMet 89 = .ok (.invokevirtual 282, 3) := by decide +kernel
theorem dX12_isMet_92 : decode cX12_isMet 92 = .ok (.aload_n 0, 1) := by decide +kernel
theorem dX12_isMet_93 : decode cX12_isMet 93 = .ok (.iload_n 1, 1) := by decide +kernel
theorem dX12_isMet_94 : decode cX12_isMet 94 = .ok (.iconst 1, 1) := by decide +kernel
theorem dX12_isMet_95 : decode cX12_isMet 95 = .ok (.iadd, 1) := by decide +kernel
theorem dX12_isMet_96 : decode cX12_isMet 96 = .ok (.invokevirtual 278, 3) := by decide +kernel
theorem dX12_isMet_99 : decode cX12_isMet 99 = .ok (.aload_n 0, 1) := by decide +kernel
theorem dX12_isMet_100 : decode cX12_isMet 100 = .ok (.iload_n 1, 1) := by decide +kernel
theorem dX12_isMet_101 : decode cX12_isMet 101 = .ok (.iconst 1, 1) := by decide +kernel
theorem dX12_isMet_102 : decode cX12_isMet 102 = .ok (.iadd, 1) := by decide +kernel
theorem dX12_isMet_103 : decode cX12_isMet 103 = .ok (.invokevirtual 282, 3) := by decide +kernel
theorem dX12_isMet_106 : decode cX12_isMet 106 = .ok (.aload_n 0, 1) := by decide +kernel
theorem dX12_isMet_107 : decode cX12_isMet 107 = .ok (.iload_n 2, 1) := by decide +kernel
theorem dX12_isMet_108 : decode cX12_isMet 108 = .ok (.invokevirtual 278, 3) := by decide +kernel
theorem dX12_isMet_111 : decode cX12_isMet 111 = .ok (.aload_n 0, 1) := by decide +kernel
theorem dX12_isMet_112 : decode cX12_isMet 112 = .ok (.iload_n 2, 1) := by decide +kernel
theorem dX12_isMet_113 : decode cX12_isMet 113 = .ok (.invokevirtual 282, 3) := by decide +kernel
theorem dX12_isMet_116 : decode cX12_isMet 116 = .ok (.invokestatic 285, 3) := by decide +kernel
theorem dX12_isMet_119 : decode cX12_isMet 119 = .ok (.istore_n 3, 1) := by decide +kernel
theorem dX12_isMet_120 : decode cX12_isMet 120 = .ok (.aload_n 0, 1) := by decide +kernel
theorem dX12_isMet_121 : decode cX12_isMet 121 = .ok (.iload_n 1, 1) := by decide +kernel
theorem dX12_isMet_122 : decode cX12_isMet 122 = .ok (.invokevirtual 278, 3) := by decide +kernel
theorem dX12_isMet_125 : decode cX12_isMet 125 = .ok (.aload_n 0, 1) := by decide +kernel
theorem dX12_isMet_126 : decode cX12_isMet 126 = .ok (.iload_n 1, 1) := by decide +kernel
theorem dX12_isMet_127 : decode cX12_isMet 127 = .ok (.invokevirtual 282, 3) := by decide +kernel
theorem dX12_isMet_130 : decode cX12_isMet 130 = .ok (.aload_n 0, 1) := by decide +kernel
theorem dX12_isMet_131 : decode cX12_isMet 131 = .ok (.iload_n 1, 1) := by decide +kernel
theorem dX12_isMet_132 : decode cX12_isMet 132 = .ok (.iconst 1, 1) := by decide +kernel
theorem dX12_isMet_133 : decode cX12_isMet 133 = .ok (.iadd, 1) := by decide +kernel
theorem dX12_isMet_134 : decode cX12_isMet 134 = .ok (.invokevirtual 278, 3) := by decide +kernel
theorem dX12_isMet_137 : decode cX12_isMet 137 = .ok (.aload_n 0, 1) := by decide +kernel
theorem dX12_isMet_138 : decode cX12_isMet 138 = .ok (.iload_n 1, 1) := by decide +kernel
theorem dX12_isMet_139 : decode cX12_isMet 139 = .ok (.iconst 1, 1) := by decide +kernel
theorem dX12_isMet_140 : decode cX12_isMet 140 = .ok (.iadd, 1) := by decide +kernel
theorem dX12_isMet_141 : decode cX12_isMet 141 = .ok (.invokevirtual 282, 3) := by decide +kernel
theorem dX12_isMet_144 : decode cX12_isMet 144 = .ok (.aload_n 0, 1) := by decide +kernel
theorem dX12_isMet_145 : decode cX12_isMet 145 = .ok (.iload_n 2, 1) := by decide +kernel
theorem dX12_isMet_146 : decode cX12_isMet 146 = .ok (.iconst 1, 1) := by decide +kernel
theorem dX12_isMet_147 : decode cX12_isMet 147 = .ok (.iadd, 1) := by decide +kernel
theorem dX12_isMet_148 : decode cX12_isMet 148 = .ok (.invokevirtual 278, 3) := by decide +kernel
theorem dX12_isMet_151 : decode cX12_isMet 151 = .ok (.aload_n 0, 1) := by decide +kernel
theorem dX12_isMet_152 : decode cX12_isMet 152 = .ok (.iload_n 2, 1) := by decide +kernel
theorem dX12_isMet_153 : decode cX12_isMet 153 = .ok (.iconst 1, 1) := by decide +kernel
theorem dX12_isMet_154 : decode cX12_isMet 154 = .ok (.iadd, 1) := by decide +kernel
theorem dX12_isMet_155 : decode cX12_isMet 155 = .ok (.invokevirtual 282, 3) := by decide +kernel
theorem dX12_isMet_158 : decode cX12_isMet 158 = .ok (.invokestatic 285, 3) := by decide +kernel
theorem dX12_isMet_161 : decode cX12_isMet 161 = .ok (.istore 4, 2) := by decide +kernel
theorem dX12_isMet_163 : decode cX12_isMet 163 = .ok (.aload_n 0, 1) := by decide +kernel
theorem dX12_isMet_164 : decode cX12_isMet 164 = .ok (.iload_n 2, 1) := by decide +kernel
theorem dX12_isMet_165 : decode cX12_isMet 165 = .ok (.invokevirtual 278, 3) := by decide +kernel
theorem dX12_isMet_168 : decode cX12_isMet 168 = .ok (.aload_n 0, 1) := by decide +kernel
theorem dX12_isMet_169 : decode cX12_isMet 169 = .ok (.iload_n 2, 1) := by decide +kernel
theorem dX12_isMet_170 : decode cX12_isMet 170 = .ok (.invokevirtual 282, 3) := by decide +kernel
theorem dX12_isMet_173 : decode cX12_isMet 173 = .ok (.aload_n 0, 1) := by decide +kernel
theorem dX12_isMet_174 : decode cX12_isMet 174 = .ok (.iload_n 2, 1) := by decide +kernel
theorem dX12_isMet_175 : decode cX12_isMet 175 = .ok (.iconst 1, 1) := by decide +kernel
theorem dX12_isMet_176 : decode cX12_isMet 176 = .ok (.iadd, 1) := by decide +kernel
theorem dX12_isMet_177 : decode cX12_isMet 177 = .ok (.invokevirtual 278, 3) := by decide +kernel
theorem dX12_isMet_180 : decode cX12_isMet 180 = .ok (.aload_n 0, 1) := by decide +kernel
theorem dX12_isMet_181 : decode cX12_isMet 181 = .ok (.iload_n 2, 1) := by decide +kernel
theorem dX12_isMet_182 : decode cX12_isMet 182 = .ok (.iconst 1, 1) := by decide +kernel
theorem dX12_isMet_183 : decode cX12_isMet 183 = .ok (.iadd, 1) := by decide +kernel
theorem dX12_isMet_184 : decode cX12_isMet 184 = .ok (.invokevirtual 282, 3) := by decide +kernel
theorem dX12_isMet_187 : decode cX12_isMet 187 = .ok (.aload_n 0, 1) := by decide +kernel
theorem dX12_isMet_188 : decode cX12_isMet 188 = .ok (.iload_n 1, 1) := by decide +kernel
theorem dX12_isMet_189 : decode cX12_isMet 189 = .ok (.invokevirtual 278, 3) := by decide +kernel
theorem dX12_isMet_192 : decode cX12_isMet 192 = .ok (.aload_n 0, 1) := by decide +kernel
theorem dX12_isMet_193 : decode cX12_isMet 193 = .ok (.iload_n 1, 1) := by decide +kernel
theorem dX12_isMet_194 : decode cX12_isMet 194 = .ok (.invokevirtual 282, 3) := by decide +kernel
theorem dX12_isMet_197 : decode cX12_isMet 197 = .ok (.invokestatic 285, 3) := by decide +kernel
theorem dX12_isMet_200 : decode cX12_isMet 200 = .ok (.istore 5, 2) := by decide +kernel
theorem dX12_isMet_202 : decode cX12_isMet 202 = .ok (.aload_n 0, 1) := by decide +kernel
theorem dX12_isMet_203 : decode cX12_isMet 203 = .ok (.iload_n 2, 1) := by decide +kernel
theorem dX12_isMet_204 : decode cX12_isMet 204 = .ok (.invokevirtual 278, 3) := by decide +kernel
theorem dX12_isMet_207 : decode cX12_isMet 207 = .ok (.aload_n 0, 1) := by decide +kernel
theorem dX12_isMet_208 : decode cX12_isMet 208 = .ok (.iload_n 2, 1) := by decide +kernel
theorem dX12_isMet_209 : decode cX12_isMet 209 = .ok (.invokevirtual 282, 3) := by decide +kernel
theorem dX12_isMet_212 : decode cX12_isMet 212 = .ok (.aload_n 0, 1) := by decide +kernel
theorem dX12_isMet_213 : decode cX12_isMet 213 = .ok (.iload_n 2, 1) := by decide +kernel
theorem dX12_isMet_214 : decode cX12_isMet 214 = .ok (.iconst 1, 1) := by decide +kernel
theorem dX12_isMet_215 : decode cX12_isMet 215 = .ok (.iadd, 1) := by decide +kernel
theorem dX12_isMet_216 : decode cX12_isMet 216 = .ok (.invokevirtual 278, 3) := by decide +kernel
theorem dX12_isMet_219 : decode cX12_isMet 219 = .ok (.aload_n 0, 1) := by decide +kernel
theorem dX12_isMet_220 : decode cX12_isMet 220 = .ok (.iload_n 2, 1) := by decide +kernel
theorem dX12_isMet_221 : decode cX12_isMet 221 = .ok (.iconst 1, 1) := by decide +kernel
theorem dX12_isMet_222 : decode cX12_isMet 222 = .ok (.iadd, 1) := by decide +kernel
theorem dX12_isMet_223 : decode cX12_isMet 223 = .ok (.invokevirtual 282, 3) := by decide +kernel
theorem dX12_isMet_226 : decode cX12_isMet 226 = .ok (.aload_n 0, 1) := by decide +kernel
theorem dX12_isMet_227 : decode cX12_isMet 227 = .ok (.iload_n 1, 1) := by decide +kernel
theorem dX12_isMet_228 : decode cX12_isMet 228 = .ok (.iconst 1, 1) := by decide +kernel
theorem dX12_isMet_229 : decode cX12_isMet 229 = .ok (.iadd, 1) := by decide +kernel
theorem dX12_isMet_230 : decode cX12_isMet 230 = .ok (.invokevirtual 278, 3) := by decide +kernel
theorem dX12_isMet_233 : decode cX12_isMet 233 = .ok (.aload_n 0, 1) := by decide +kernel
theorem dX12_isMet_234 : decode cX12_isMet 234 = .ok (.iload_n 1, 1) := by decide +kernel
theorem dX12_isMet_235 : decode cX12_isMet 235 = .ok (.iconst 1, 1) := by decide +kernel
theorem dX12_isMet_236 : decode cX12_isMet 236 = .ok (.iadd, 1) := by decide +kernel
theorem dX12_isMet_237 : decode cX12_isMet 237 = .ok (.invokevirtual 282, 3) := by decide +kernel
theorem dX12_isMet_240 : decode cX12_isMet 240 = .ok (.invokestatic 285, 3) := by decide +kernel
theorem dX12_isMet_243 : decode cX12_isMet 243 = .ok (.istore 6, 2) := by decide +kernel
theorem dX12_isMet_245 : decode cX12_isMet 245 = .ok (.iload_n 3, 1) := by decide +kernel
theorem dX12_isMet_246 : decode cX12_isMet 246 = .ok (.iload 4, 2) := by decide +kernel
theorem dX12_isMet_248 : decode cX12_isMet 248 = .ok (.imul, 1) := by decide +kernel
theorem dX12_isMet_249 : decode cX12_isMet 249 = .ok (.ifCond .ge 15, 3) := by decide +kernel
theorem dX12_isMet_252 : decode cX12_isMet 252 = .ok (.iload 5, 2) := by decide +kernel
theorem dX12_isMet_254 : decode cX12_isMet 254 = .ok (.iload 6, 2) := by decide +kernel
theorem dX12_isMet_256 : decode cX12_isMet 256 = .ok (.imul, 1) := by decide +kernel
theorem dX12_isMet_257 : decode cX12_isMet 257 = .ok (.ifCond .ge 7, 3) := by decide +kernel
theorem dX12_isMet_260 : decode cX12_isMet 260 = .ok (.iconst 1, 1) := by decide +kernel
theorem dX12_isMet_261 : decode cX12_isMet 261 = .ok (.goto 4, 3) := by decide +kernel
theorem dX12_isMet_264 : decode cX12_isMet 264 = .ok (.iconst 0, 1) := by decide +kernel
theorem dX12_isMet_265 : decode cX12_isMet 265 = .ok (.ireturn, 1) := by decide +kernel
def f_M_isMet (p0 : Int32) (p1 : Int32) (σ : CS) : Option (Int32 × CS) := bnd (f_M_x p1 σ) (fun r4 σ4 => bnd (f_M_y p1 σ4) (fun r9 σ9 => bnd (f_M_isOn p0 r4 r9 σ9) (fun r12 σ12 => if r12 = 0 then bnd (f_M_x (p1 + 1) σ12) (fun r24 σ24 => bnd (f_M_y (p1 + 1) σ24) (fun r31 σ31 => bnd (f_M_isOn p0 r24 r31 σ31) (fun r34 σ34 => if r34 = 0 then bnd (f_M_x p0 σ34) (fun r44 σ44 => bnd (f_M_y p0 σ44) (fun r49 σ49 => bnd (f_M_isOn p1 r44 r49 σ49) (fun r52 σ52 => if r52 = 0 then bnd (f_M_x (p0 + 1) σ52) (fun r64 σ64 => bnd (f_M_y (p0 + 1) σ64) (fun r71 σ71 => bnd (f_M_isOn p1 r64 r71 σ71) (fun r74 σ74 => if r74 = 0 then bnd (f_M_x p0 σ74) (fun r84 σ84 => bnd (f_M_y p0 σ84) (fun r89 σ89 => bnd (f_M_x (p0 + 1) σ89) (fun r96 σ96 => bnd (f_M_y (p0 + 1) σ96) (fun r103 σ103 => bnd (f_M_x p1 σ103) (fun r108 σ108 => bnd (f_M_y p1 σ108) (fun r113 σ113 => bnd (f_M_turn r84 r89 r96 r103 r108 r113 σ113) (fun r116 σ116 => bnd (f_M_x p0 σ116) (fun r122 σ122 => bnd (f_M_y p0 σ122) (fun r127 σ127 => bnd (f_M_x (p0 + 1) σ127) (fun r134 σ134 => bnd (f_M_y (p0 + 1) σ134) (fun r141 σ141 => bnd (f_M_x (p1 + 1) σ141) (fun r148 σ148 => bnd (f_M_y (p1 + 1) σ148) (fun r155 σ155 => bnd (f_M_turn r122 r127 r134 r141 r148 r155 σ155) (fun r158 σ158 => bnd (f_M_x p1 σ158) (fun r165 σ165 => bnd (f_M_y p1 σ165) (fun r170 σ170 => bnd (f_M_x (p1 + 1) σ170) (fun r177 σ177 => bnd (f_M_y (p1 + 1) σ177) (fun r184 σ184 => bnd (f_M_x p0 σ184) (fun r189 σ189 => bnd (f_M_y p0 σ189) (fun r194 σ194 => bnd (f_M_turn r165 r170 r177 r184 r189 r194 σ194) (fun r197 σ197 => bnd (f_M_x p1 σ197) (fun r204 σ204 => bnd (f_M_y p1 σ204) (fun r209 σ209 => bnd (f_M_x (p1 + 1) σ209) (fun r216 σ216 => bnd (f_M_y (p1 + 1) σ216) (fun r223 σ223 => bnd (f_M_x (p0 + 1) σ223) (fun r230 σ230 => bnd (f_M_y (p0 + 1) σ230) (fun r237 σ237 => bnd (f_M_turn r204 r209 r216 r223 r230 r237 σ237) (fun r240 σ240 => if 0 ≤ (r116 * r158) then some (0, σ240) else if 0 ≤ (r197 * r240) then some (0, σ240) else some (1, σ240))))))))))))))))))))))))))))) else some (1, σ74)))) else some (1, σ52)))) else some (1, σ34)))) else some (1, σ12))))
set_option maxHeartbeats 4000000 in
set_option maxRecDepth 100000 in
theorem c_M_isMet {l : Launch} {g : EG} {am : Nat → Nat} {Rr : va_W} {σ σ' : CS} {r : Int32} {p0 : Int32} {p1 : Int32}  (h : f_M_isMet p0 p1 σ = some (r, σ')) : CmI l g yX12_isMet (.code yX12_isMet cX12_isMet 7 (some .boolean)) 2 49 am Rr σ [.ref (am 112), .int p0, .int p1] r σ' := by
  refine Ct.of rfl (by decide) (Nat.le_of_ble_eq_true rfl) ?_
  intro p e s m args below meth c A C hr
  show NMI g p l e s m args below meth c A 2 49 7 am Rr (r, σ') σ [(0, .ref (am 112)), (1, .int p0), (2, .int p1)] 0 []
  unfold f_M_isMet at h
  refine nw_aload_n C dX12_isMet_0 rfl 0 rfl ?_
  refine nw_iload_n C dX12_isMet_1 rfl 1 rfl ?_
  refine nw_aload_n C dX12_isMet_2 rfl 0 rfl ?_
  refine nw_iload_n C dX12_isMet_3 rfl 2 rfl ?_
  refine nm_callVI (q0 := 0) (As := [.int p1]) (rest := [.int p0, .ref (am 112)]) C h (fun _ _ e => c_M_x e) tw_1944 kv_X12_x ml_O rfl ⟨Nat.le_of_ble_eq_true rfl, Nat.le_of_ble_eq_true rfl⟩ rfl dX12_isMet_4 rfl (Nat.le_of_ble_eq_true rfl) (fun r4 σ4 h => ?_)
  refine nw_aload_n C dX12_isMet_7 rfl 0 rfl ?_
  refine nw_iload_n C dX12_isMet_8 rfl 2 rfl ?_
  refine nm_callVI (q0 := 0) (As := [.int p1]) (rest := [.int r4, .int p0, .ref (am 112)]) C h (fun _ _ e => c_M_y e) tw_1948 kv_X12_y ml_O rfl ⟨Nat.le_of_ble_eq_true rfl, Nat.le_of_ble_eq_true rfl⟩ rfl dX12_isMet_9 rfl (Nat.le_of_ble_eq_true rfl) (fun r9 σ9 h => ?_)
  refine nm_callVI (q0 := 0) (As := [.int p0, .int r4, .int r9]) (rest := []) C h (fun _ _ e => c_M_isOn e) tw_1952 kv_X12_isOn ml_O rfl ⟨Nat.le_of_ble_eq_true rfl, Nat.le_of_ble_eq_true rfl⟩ rfl dX12_isMet_12 rfl (Nat.le_of_ble_eq_true rfl) (fun r12 σ12 h => ?_)
  refine nw_if_ne (tgt := 80) C dX12_isMet_15 (by decide) h (fun _ h => ?_) (fun _ h => ?_)
  · refine nw_aload_n C dX12_isMet_18 rfl 0 rfl ?_
    refine nw_iload_n C dX12_isMet_19 rfl 1 rfl ?_
    refine nw_aload_n C dX12_isMet_20 rfl 0 rfl ?_
    refine nw_iload_n C dX12_isMet_21 rfl 2 rfl ?_
    refine nw_iconst (v := 1) C dX12_isMet_22 (by decide) ?_
    refine nw_iadd C dX12_isMet_23 ?_
    refine nm_callVI (q0 := 0) (As := [.int (p1 + 1)]) (rest := [.int p0, .ref (am 112)]) C h (fun _ _ e => c_M_x e) tw_1944 kv_X12_x ml_O rfl ⟨Nat.le_of_ble_eq_true rfl, Nat.le_of_ble_eq_true rfl⟩ rfl dX12_isMet_24 rfl (Nat.le_of_ble_eq_true rfl) (fun r24 σ24 h => ?_)
    refine nw_aload_n C dX12_isMet_27 rfl 0 rfl ?_
    refine nw_iload_n C dX12_isMet_28 rfl 2 rfl ?_
    refine nw_iconst (v := 1) C dX12_isMet_29 (by decide) ?_
    refine nw_iadd C dX12_isMet_30 ?_
    refine nm_callVI (q0 := 0) (As := [.int (p1 + 1)]) (rest := [.int r24, .int p0, .ref (am 112)]) C h (fun _ _ e => c_M_y e) tw_1948 kv_X12_y ml_O rfl ⟨Nat.le_of_ble_eq_true rfl, Nat.le_of_ble_eq_true rfl⟩ rfl dX12_isMet_31 rfl (Nat.le_of_ble_eq_true rfl) (fun r31 σ31 h => ?_)
    refine nm_callVI (q0 := 0) (As := [.int p0, .int r24, .int r31]) (rest := []) C h (fun _ _ e => c_M_isOn e) tw_1952 kv_X12_isOn ml_O rfl ⟨Nat.le_of_ble_eq_true rfl, Nat.le_of_ble_eq_true rfl⟩ rfl dX12_isMet_34 rfl (Nat.le_of_ble_eq_true rfl) (fun r34 σ34 h => ?_)
    refine nw_if_ne (tgt := 80) C dX12_isMet_37 (by decide) h (fun _ h => ?_) (fun _ h => ?_)
    · refine nw_aload_n C dX12_isMet_40 rfl 0 rfl ?_
      refine nw_iload_n C dX12_isMet_41 rfl 2 rfl ?_
      refine nw_aload_n C dX12_isMet_42 rfl 0 rfl ?_
      refine nw_iload_n C dX12_isMet_43 rfl 1 rfl ?_
      refine nm_callVI (q0 := 0) (As := [.int p0]) (rest := [.int p1, .ref (am 112)]) C h (fun _ _ e => c_M_x e) tw_1944 kv_X12_x ml_O rfl ⟨Nat.le_of_ble_eq_true rfl, Nat.le_of_ble_eq_true rfl⟩ rfl dX12_isMet_44 rfl (Nat.le_of_ble_eq_true rfl) (fun r44 σ44 h => ?_)
      refine nw_aload_n C dX12_isMet_47 rfl 0 rfl ?_
      refine nw_iload_n C dX12_isMet_48 rfl 1 rfl ?_
      refine nm_callVI (q0 := 0) (As := [.int p0]) (rest := [.int r44, .int p1, .ref (am 112)]) C h (fun _ _ e => c_M_y e) tw_1948 kv_X12_y ml_O rfl ⟨Nat.le_of_ble_eq_true rfl, Nat.le_of_ble_eq_true rfl⟩ rfl dX12_isMet_49 rfl (Nat.le_of_ble_eq_true rfl) (fun r49 σ49 h => ?_)
      refine nm_callVI (q0 := 0) (As := [.int p1, .int r44, .int r49]) (rest := []) C h (fun _ _ e => c_M_isOn e) tw_1952 kv_X12_isOn ml_O rfl ⟨Nat.le_of_ble_eq_true rfl, Nat.le_of_ble_eq_true rfl⟩ rfl dX12_isMet_52 rfl (Nat.le_of_ble_eq_true rfl) (fun r52 σ52 h => ?_)
      refine nw_if_ne (tgt := 80) C dX12_isMet_55 (by decide) h (fun _ h => ?_) (fun _ h => ?_)
      · refine nw_aload_n C dX12_isMet_58 rfl 0 rfl ?_
        refine nw_iload_n C dX12_isMet_59 rfl 2 rfl ?_
        refine nw_aload_n C dX12_isMet_60 rfl 0 rfl ?_
        refine nw_iload_n C dX12_isMet_61 rfl 1 rfl ?_
        refine nw_iconst (v := 1) C dX12_isMet_62 (by decide) ?_
        refine nw_iadd C dX12_isMet_63 ?_
        refine nm_callVI (q0 := 0) (As := [.int (p0 + 1)]) (rest := [.int p1, .ref (am 112)]) C h (fun _ _ e => c_M_x e) tw_1944 kv_X12_x ml_O rfl ⟨Nat.le_of_ble_eq_true rfl, Nat.le_of_ble_eq_true rfl⟩ rfl dX12_isMet_64 rfl (Nat.le_of_ble_eq_true rfl) (fun r64 σ64 h => ?_)
        refine nw_aload_n C dX12_isMet_67 rfl 0 rfl ?_
        refine nw_iload_n C dX12_isMet_68 rfl 1 rfl ?_
        refine nw_iconst (v := 1) C dX12_isMet_69 (by decide) ?_
        refine nw_iadd C dX12_isMet_70 ?_
        refine nm_callVI (q0 := 0) (As := [.int (p0 + 1)]) (rest := [.int r64, .int p1, .ref (am 112)]) C h (fun _ _ e => c_M_y e) tw_1948 kv_X12_y ml_O rfl ⟨Nat.le_of_ble_eq_true rfl, Nat.le_of_ble_eq_true rfl⟩ rfl dX12_isMet_71 rfl (Nat.le_of_ble_eq_true rfl) (fun r71 σ71 h => ?_)
        refine nm_callVI (q0 := 0) (As := [.int p1, .int r64, .int r71]) (rest := []) C h (fun _ _ e => c_M_isOn e) tw_1952 kv_X12_isOn ml_O rfl ⟨Nat.le_of_ble_eq_true rfl, Nat.le_of_ble_eq_true rfl⟩ rfl dX12_isMet_74 rfl (Nat.le_of_ble_eq_true rfl) (fun r74 σ74 h => ?_)
        refine nw_if_eq (tgt := 82) C dX12_isMet_77 (by decide) h (fun _ h => ?_) (fun _ h => ?_)
        · refine nw_aload_n C dX12_isMet_82 rfl 0 rfl ?_
          refine nw_iload_n C dX12_isMet_83 rfl 1 rfl ?_
          refine nm_callVI (q0 := 0) (As := [.int p0]) (rest := []) C h (fun _ _ e => c_M_x e) tw_1944 kv_X12_x ml_O rfl ⟨Nat.le_of_ble_eq_true rfl, Nat.le_of_ble_eq_true rfl⟩ rfl dX12_isMet_84 rfl (Nat.le_of_ble_eq_true rfl) (fun r84 σ84 h => ?_)
          refine nw_aload_n C dX12_isMet_87 rfl 0 rfl ?_
          refine nw_iload_n C dX12_isMet_88 rfl 1 rfl ?_
          refine nm_callVI (q0 := 0) (As := [.int p0]) (rest := [.int r84]) C h (fun _ _ e => c_M_y e) tw_1948 kv_X12_y ml_O rfl ⟨Nat.le_of_ble_eq_true rfl, Nat.le_of_ble_eq_true rfl⟩ rfl dX12_isMet_89 rfl (Nat.le_of_ble_eq_true rfl) (fun r89 σ89 h => ?_)
          refine nw_aload_n C dX12_isMet_92 rfl 0 rfl ?_
          refine nw_iload_n C dX12_isMet_93 rfl 1 rfl ?_
          refine nw_iconst (v := 1) C dX12_isMet_94 (by decide) ?_
          refine nw_iadd C dX12_isMet_95 ?_
          refine nm_callVI (q0 := 0) (As := [.int (p0 + 1)]) (rest := [.int r89, .int r84]) C h (fun _ _ e => c_M_x e) tw_1944 kv_X12_x ml_O rfl ⟨Nat.le_of_ble_eq_true rfl, Nat.le_of_ble_eq_true rfl⟩ rfl dX12_isMet_96 rfl (Nat.le_of_ble_eq_true rfl) (fun r96 σ96 h => ?_)
          refine nw_aload_n C dX12_isMet_99 rfl 0 rfl ?_
          refine nw_iload_n C dX12_isMet_100 rfl 1 rfl ?_
          refine nw_iconst (v := 1) C dX12_isMet_101 (by decide) ?_
          refine nw_iadd C dX12_isMet_102 ?_
          refine nm_callVI (q0 := 0) (As := [.int (p0 + 1)]) (rest := [.int r96, .int r89, .int r84]) C h (fun _ _ e => c_M_y e) tw_1948 kv_X12_y ml_O rfl ⟨Nat.le_of_ble_eq_true rfl, Nat.le_of_ble_eq_true rfl⟩ rfl dX12_isMet_103 rfl (Nat.le_of_ble_eq_true rfl) (fun r103 σ103 h => ?_)
          refine nw_aload_n C dX12_isMet_106 rfl 0 rfl ?_
          refine nw_iload_n C dX12_isMet_107 rfl 2 rfl ?_
          refine nm_callVI (q0 := 0) (As := [.int p1]) (rest := [.int r103, .int r96, .int r89, .int r84]) C h (fun _ _ e => c_M_x e) tw_1944 kv_X12_x ml_O rfl ⟨Nat.le_of_ble_eq_true rfl, Nat.le_of_ble_eq_true rfl⟩ rfl dX12_isMet_108 rfl (Nat.le_of_ble_eq_true rfl) (fun r108 σ108 h => ?_)
          refine nw_aload_n C dX12_isMet_111 rfl 0 rfl ?_
          refine nw_iload_n C dX12_isMet_112 rfl 2 rfl ?_
          refine nm_callVI (q0 := 0) (As := [.int p1]) (rest := [.int r108, .int r103, .int r96, .int r89, .int r84]) C h (fun _ _ e => c_M_y e) tw_1948 kv_X12_y ml_O rfl ⟨Nat.le_of_ble_eq_true rfl, Nat.le_of_ble_eq_true rfl⟩ rfl dX12_isMet_113 rfl (Nat.le_of_ble_eq_true rfl) (fun r113 σ113 h => ?_)
          refine nm_callSI  (As := [.int r84, .int r89, .int r96, .int r103, .int r108, .int r113]) (rest := []) C h (fun _ _ e => c_M_turn e) tw_1956 ks_X12_turn ⟨Nat.le_of_ble_eq_true rfl, Nat.le_of_ble_eq_true rfl⟩ rfl dX12_isMet_116 rfl (Nat.le_of_ble_eq_true rfl) (fun r116 σ116 h => ?_)
          refine nw_istore_n (lv' := [(3, .int r116), (0, .ref (am 112)), (1, .int p0), (2, .int p1)]) C dX12_isMet_119 rfl (by decide) rfl ?_
          refine nw_aload_n C dX12_isMet_120 rfl 1 rfl ?_
          refine nw_iload_n C dX12_isMet_121 rfl 2 rfl ?_
          refine nm_callVI (q0 := 0) (As := [.int p0]) (rest := []) C h (fun _ _ e => c_M_x e) tw_1944 kv_X12_x ml_O rfl ⟨Nat.le_of_ble_eq_true rfl, Nat.le_of_ble_eq_true rfl⟩ rfl dX12_isMet_122 rfl (Nat.le_of_ble_eq_true rfl) (fun r122 σ122 h => ?_)
          refine nw_aload_n C dX12_isMet_125 rfl 1 rfl ?_
          refine nw_iload_n C dX12_isMet_126 rfl 2 rfl ?_
          refine nm_callVI (q0 := 0) (As := [.int p0]) (rest := [.int r122]) C h (fun _ _ e => c_M_y e) tw_1948 kv_X12_y ml_O rfl ⟨Nat.le_of_ble_eq_true rfl, Nat.le_of_ble_eq_true rfl⟩ rfl dX12_isMet_127 rfl (Nat.le_of_ble_eq_true rfl) (fun r127 σ127 h => ?_)
          refine nw_aload_n C dX12_isMet_130 rfl 1 rfl ?_
          refine nw_iload_n C dX12_isMet_131 rfl 2 rfl ?_
          refine nw_iconst (v := 1) C dX12_isMet_132 (by decide) ?_
          refine nw_iadd C dX12_isMet_133 ?_
          refine nm_callVI (q0 := 0) (As := [.int (p0 + 1)]) (rest := [.int r127, .int r122]) C h (fun _ _ e => c_M_x e) tw_1944 kv_X12_x ml_O rfl ⟨Nat.le_of_ble_eq_true rfl, Nat.le_of_ble_eq_true rfl⟩ rfl dX12_isMet_134 rfl (Nat.le_of_ble_eq_true rfl) (fun r134 σ134 h => ?_)
          refine nw_aload_n C dX12_isMet_137 rfl 1 rfl ?_
          refine nw_iload_n C dX12_isMet_138 rfl 2 rfl ?_
          refine nw_iconst (v := 1) C dX12_isMet_139 (by decide) ?_
          refine nw_iadd C dX12_isMet_140 ?_
          refine nm_callVI (q0 := 0) (As := [.int (p0 + 1)]) (rest := [.int r134, .int r127, .int r122]) C h (fun _ _ e => c_M_y e) tw_1948 kv_X12_y ml_O rfl ⟨Nat.le_of_ble_eq_true rfl, Nat.le_of_ble_eq_true rfl⟩ rfl dX12_isMet_141 rfl (Nat.le_of_ble_eq_true rfl) (fun r141 σ141 h => ?_)
          refine nw_aload_n C dX12_isMet_144 rfl 1 rfl ?_
          refine nw_iload_n C dX12_isMet_145 rfl 3 rfl ?_
          refine nw_iconst (v := 1) C dX12_isMet_146 (by decide) ?_
          refine nw_iadd C dX12_isMet_147 ?_
          refine nm_callVI (q0 := 0) (As := [.int (p1 + 1)]) (rest := [.int r141, .int r134, .int r127, .int r122]) C h (fun _ _ e => c_M_x e) tw_1944 kv_X12_x ml_O rfl ⟨Nat.le_of_ble_eq_true rfl, Nat.le_of_ble_eq_true rfl⟩ rfl dX12_isMet_148 rfl (Nat.le_of_ble_eq_true rfl) (fun r148 σ148 h => ?_)
          refine nw_aload_n C dX12_isMet_151 rfl 1 rfl ?_
          refine nw_iload_n C dX12_isMet_152 rfl 3 rfl ?_
          refine nw_iconst (v := 1) C dX12_isMet_153 (by decide) ?_
          refine nw_iadd C dX12_isMet_154 ?_
          refine nm_callVI (q0 := 0) (As := [.int (p1 + 1)]) (rest := [.int r148, .int r141, .int r134, .int r127, .int r122]) C h (fun _ _ e => c_M_y e) tw_1948 kv_X12_y ml_O rfl ⟨Nat.le_of_ble_eq_true rfl, Nat.le_of_ble_eq_true rfl⟩ rfl dX12_isMet_155 rfl (Nat.le_of_ble_eq_true rfl) (fun r155 σ155 h => ?_)
          refine nm_callSI  (As := [.int r122, .int r127, .int r134, .int r141, .int r148, .int r155]) (rest := []) C h (fun _ _ e => c_M_turn e) tw_1956 ks_X12_turn ⟨Nat.le_of_ble_eq_true rfl, Nat.le_of_ble_eq_true rfl⟩ rfl dX12_isMet_158 rfl (Nat.le_of_ble_eq_true rfl) (fun r158 σ158 h => ?_)
          refine nw_istore (lv' := [(4, .int r158), (3, .int r116), (0, .ref (am 112)), (1, .int p0), (2, .int p1)]) C dX12_isMet_161 (by decide) rfl ?_
          refine nw_aload_n C dX12_isMet_163 rfl 2 rfl ?_
          refine nw_iload_n C dX12_isMet_164 rfl 4 rfl ?_
          refine nm_callVI (q0 := 0) (As := [.int p1]) (rest := []) C h (fun _ _ e => c_M_x e) tw_1944 kv_X12_x ml_O rfl ⟨Nat.le_of_ble_eq_true rfl, Nat.le_of_ble_eq_true rfl⟩ rfl dX12_isMet_165 rfl (Nat.le_of_ble_eq_true rfl) (fun r165 σ165 h => ?_)
          refine nw_aload_n C dX12_isMet_168 rfl 2 rfl ?_
          refine nw_iload_n C dX12_isMet_169 rfl 4 rfl ?_
          refine nm_callVI (q0 := 0) (As := [.int p1]) (rest := [.int r165]) C h (fun _ _ e => c_M_y e) tw_1948 kv_X12_y ml_O rfl ⟨Nat.le_of_ble_eq_true rfl, Nat.le_of_ble_eq_true rfl⟩ rfl dX12_isMet_170 rfl (Nat.le_of_ble_eq_true rfl) (fun r170 σ170 h => ?_)
          refine nw_aload_n C dX12_isMet_173 rfl 2 rfl ?_
          refine nw_iload_n C dX12_isMet_174 rfl 4 rfl ?_
          refine nw_iconst (v := 1) C dX12_isMet_175 (by decide) ?_
          refine nw_iadd C dX12_isMet_176 ?_
          refine nm_callVI (q0 := 0) (As := [.int (p1 + 1)]) (rest := [.int r170, .int r165]) C h (fun _ _ e => c_M_x e) tw_1944 kv_X12_x ml_O rfl ⟨Nat.le_of_ble_eq_true rfl, Nat.le_of_ble_eq_true rfl⟩ rfl dX12_isMet_177 rfl (Nat.le_of_ble_eq_true rfl) (fun r177 σ177 h => ?_)
          refine nw_aload_n C dX12_isMet_180 rfl 2 rfl ?_
          refine nw_iload_n C dX12_isMet_181 rfl 4 rfl ?_
          refine nw_iconst (v := 1) C dX12_isMet_182 (by decide) ?_
          refine nw_iadd C dX12_isMet_183 ?_
          refine nm_callVI (q0 := 0) (As := [.int (p1 + 1)]) (rest := [.int r177, .int r170, .int r165]) C h (fun _ _ e => c_M_y e) tw_1948 kv_X12_y ml_O rfl ⟨Nat.le_of_ble_eq_true rfl, Nat.le_of_ble_eq_true rfl⟩ rfl dX12_isMet_184 rfl (Nat.le_of_ble_eq_true rfl) (fun r184 σ184 h => ?_)
          refine nw_aload_n C dX12_isMet_187 rfl 2 rfl ?_
          refine nw_iload_n C dX12_isMet_188 rfl 3 rfl ?_
          refine nm_callVI (q0 := 0) (As := [.int p0]) (rest := [.int r184, .int r177, .int r170, .int r165]) C h (fun _ _ e => c_M_x e) tw_1944 kv_X12_x ml_O rfl ⟨Nat.le_of_ble_eq_true rfl, Nat.le_of_ble_eq_true rfl⟩ rfl dX12_isMet_189 rfl (Nat.le_of_ble_eq_true rfl) (fun r189 σ189 h => ?_)
          refine nw_aload_n C dX12_isMet_192 rfl 2 rfl ?_
          refine nw_iload_n C dX12_isMet_193 rfl 3 rfl ?_
          refine nm_callVI (q0 := 0) (As := [.int p0]) (rest := [.int r189, .int r184, .int r177, .int r170, .int r165]) C h (fun _ _ e => c_M_y e) tw_1948 kv_X12_y ml_O rfl ⟨Nat.le_of_ble_eq_true rfl, Nat.le_of_ble_eq_true rfl⟩ rfl dX12_isMet_194 rfl (Nat.le_of_ble_eq_true rfl) (fun r194 σ194 h => ?_)
          refine nm_callSI  (As := [.int r165, .int r170, .int r177, .int r184, .int r189, .int r194]) (rest := []) C h (fun _ _ e => c_M_turn e) tw_1956 ks_X12_turn ⟨Nat.le_of_ble_eq_true rfl, Nat.le_of_ble_eq_true rfl⟩ rfl dX12_isMet_197 rfl (Nat.le_of_ble_eq_true rfl) (fun r197 σ197 h => ?_)
          refine nw_istore (lv' := [(5, .int r197), (4, .int r158), (3, .int r116), (0, .ref (am 112)), (1, .int p0), (2, .int p1)]) C dX12_isMet_200 (by decide) rfl ?_
          refine nw_aload_n C dX12_isMet_202 rfl 3 rfl ?_
          refine nw_iload_n C dX12_isMet_203 rfl 5 rfl ?_
          refine nm_callVI (q0 := 0) (As := [.int p1]) (rest := []) C h (fun _ _ e => c_M_x e) tw_1944 kv_X12_x ml_O rfl ⟨Nat.le_of_ble_eq_true rfl, Nat.le_of_ble_eq_true rfl⟩ rfl dX12_isMet_204 rfl (Nat.le_of_ble_eq_true rfl) (fun r204 σ204 h => ?_)
          refine nw_aload_n C dX12_isMet_207 rfl 3 rfl ?_
          refine nw_iload_n C dX12_isMet_208 rfl 5 rfl ?_
          refine nm_callVI (q0 := 0) (As := [.int p1]) (rest := [.int r204]) C h (fun _ _ e => c_M_y e) tw_1948 kv_X12_y ml_O rfl ⟨Nat.le_of_ble_eq_true rfl, Nat.le_of_ble_eq_true rfl⟩ rfl dX12_isMet_209 rfl (Nat.le_of_ble_eq_true rfl) (fun r209 σ209 h => ?_)
          refine nw_aload_n C dX12_isMet_212 rfl 3 rfl ?_
          refine nw_iload_n C dX12_isMet_213 rfl 5 rfl ?_
          refine nw_iconst (v := 1) C dX12_isMet_214 (by decide) ?_
          refine nw_iadd C dX12_isMet_215 ?_
          refine nm_callVI (q0 := 0) (As := [.int (p1 + 1)]) (rest := [.int r209, .int r204]) C h (fun _ _ e => c_M_x e) tw_1944 kv_X12_x ml_O rfl ⟨Nat.le_of_ble_eq_true rfl, Nat.le_of_ble_eq_true rfl⟩ rfl dX12_isMet_216 rfl (Nat.le_of_ble_eq_true rfl) (fun r216 σ216 h => ?_)
          refine nw_aload_n C dX12_isMet_219 rfl 3 rfl ?_
          refine nw_iload_n C dX12_isMet_220 rfl 5 rfl ?_
          refine nw_iconst (v := 1) C dX12_isMet_221 (by decide) ?_
          refine nw_iadd C dX12_isMet_222 ?_
          refine nm_callVI (q0 := 0) (As := [.int (p1 + 1)]) (rest := [.int r216, .int r209, .int r204]) C h (fun _ _ e => c_M_y e) tw_1948 kv_X12_y ml_O rfl ⟨Nat.le_of_ble_eq_true rfl, Nat.le_of_ble_eq_true rfl⟩ rfl dX12_isMet_223 rfl (Nat.le_of_ble_eq_true rfl) (fun r223 σ223 h => ?_)
          refine nw_aload_n C dX12_isMet_226 rfl 3 rfl ?_
          refine nw_iload_n C dX12_isMet_227 rfl 4 rfl ?_
          refine nw_iconst (v := 1) C dX12_isMet_228 (by decide) ?_
          refine nw_iadd C dX12_isMet_229 ?_
          refine nm_callVI (q0 := 0) (As := [.int (p0 + 1)]) (rest := [.int r223, .int r216, .int r209, .int r204]) C h (fun _ _ e => c_M_x e) tw_1944 kv_X12_x ml_O rfl ⟨Nat.le_of_ble_eq_true rfl, Nat.le_of_ble_eq_true rfl⟩ rfl dX12_isMet_230 rfl (Nat.le_of_ble_eq_true rfl) (fun r230 σ230 h => ?_)
          refine nw_aload_n C dX12_isMet_233 rfl 3 rfl ?_
          refine nw_iload_n C dX12_isMet_234 rfl 4 rfl ?_
          refine nw_iconst (v := 1) C dX12_isMet_235 (by decide) ?_
          refine nw_iadd C dX12_isMet_236 ?_
          refine nm_callVI (q0 := 0) (As := [.int (p0 + 1)]) (rest := [.int r230, .int r223, .int r216, .int r209, .int r204]) C h (fun _ _ e => c_M_y e) tw_1948 kv_X12_y ml_O rfl ⟨Nat.le_of_ble_eq_true rfl, Nat.le_of_ble_eq_true rfl⟩ rfl dX12_isMet_237 rfl (Nat.le_of_ble_eq_true rfl) (fun r237 σ237 h => ?_)
          refine nm_callSI  (As := [.int r204, .int r209, .int r216, .int r223, .int r230, .int r237]) (rest := []) C h (fun _ _ e => c_M_turn e) tw_1956 ks_X12_turn ⟨Nat.le_of_ble_eq_true rfl, Nat.le_of_ble_eq_true rfl⟩ rfl dX12_isMet_240 rfl (Nat.le_of_ble_eq_true rfl) (fun r240 σ240 h => ?_)
          refine nw_istore (lv' := [(6, .int r240), (5, .int r197), (4, .int r158), (3, .int r116), (0, .ref (am 112)), (1, .int p0), (2, .int p1)]) C dX12_isMet_243 (by decide) rfl ?_
          refine nw_iload_n C dX12_isMet_245 rfl 3 rfl ?_
          refine nw_iload C dX12_isMet_246 2 rfl ?_
          refine nw_imul C dX12_isMet_248 ?_
          refine nw_if_ge (tgt := 264) C dX12_isMet_249 (by decide) h (fun _ h => ?_) (fun _ h => ?_)
          · refine nw_iconst (v := 0) C dX12_isMet_264 (by decide) ?_
            exact nm_zret C hr (Or.inl rfl) dX12_isMet_265 h
          · refine nw_iload C dX12_isMet_252 1 rfl ?_
            refine nw_iload C dX12_isMet_254 0 rfl ?_
            refine nw_imul C dX12_isMet_256 ?_
            refine nw_if_ge (tgt := 264) C dX12_isMet_257 (by decide) h (fun _ h => ?_) (fun _ h => ?_)
            · refine nw_iconst (v := 0) C dX12_isMet_264 (by decide) ?_
              exact nm_zret C hr (Or.inl rfl) dX12_isMet_265 h
            · refine nw_iconst (v := 1) C dX12_isMet_260 (by decide) ?_
              refine nw_goto (tgt := 265) C dX12_isMet_261 (by decide) ?_
              exact nm_zret C hr (Or.inr rfl) dX12_isMet_265 h
        · refine nw_iconst (v := 1) C dX12_isMet_80 (by decide) ?_
          exact nm_zret C hr (Or.inr rfl) dX12_isMet_81 h
      · refine nw_iconst (v := 1) C dX12_isMet_80 (by decide) ?_
        exact nm_zret C hr (Or.inr rfl) dX12_isMet_81 h
    · refine nw_iconst (v := 1) C dX12_isMet_80 (by decide) ?_
      exact nm_zret C hr (Or.inr rfl) dX12_isMet_81 h
  · refine nw_iconst (v := 1) C dX12_isMet_80 (by decide) ?_
    exact nm_zret C hr (Or.inr rfl) dX12_isMet_81 h
theorem dX12_isSimple_0 : decode cX12_isSimple 0 = .ok (.iconst 0, 1) := by decide +kernel
theorem dX12_isSimple_1 : decode cX12_isSimple 1 = .ok (.istore_n 1, 1) := by decide +kernel
theorem dX12_isSimple_2 : decode cX12_isSimple 2 = .ok (.iload_n 1, 1) := by decide +kernel
theorem dX12_isSimple_3 : decode cX12_isSimple 3 = .ok (.aload_n 0, 1) := by decide +kernel
theorem dX12_isSimple_4 : decode cX12_isSimple 4 = .ok (.getfield 275, 3) := by decide +kernel
theorem dX12_isSimple_7 : decode cX12_isSimple 7 = .ok (.if_icmp .ge 55, 3) := by decide +kernel
theorem dX12_isSimple_10 : decode cX12_isSimple 10 = .ok (.iload_n 1, 1) := by decide +kernel
theorem dX12_isSimple_11 : decode cX12_isSimple 11 = .ok (.iconst 1, 1) := by decide +kernel
theorem dX12_isSimple_12 : decode cX12_isSimple 12 = .ok (.iadd, 1) := by decide +kernel
theorem dX12_isSimple_13 : decode cX12_isSimple 13 = .ok (.istore_n 2, 1) := by decide +kernel
theorem dX12_isSimple_14 : decode cX12_isSimple 14 = .ok (.iload_n 2, 1) := by decide +kernel
theorem dX12_isSimple_15 : decode cX12_isSimple 15 = .ok (.aload_n 0, 1) := by decide +kernel
theorem dX12_isSimple_16 : decode cX12_isSimple 16 = .ok (.getfield 275, 3) := by decide +kernel
theorem dX12_isSimple_19 : decode cX12_isSimple 19 = .ok (.if_icmp .ge 37, 3) := by decide +kernel
theorem dX12_isSimple_22 : decode cX12_isSimple 22 = .ok (.aload_n 0, 1) := by decide +kernel
theorem dX12_isSimple_23 : decode cX12_isSimple 23 = .ok (.iload_n 1, 1) := by decide +kernel
theorem dX12_isSimple_24 : decode cX12_isSimple 24 = .ok (.invokevirtual 278, 3) := by decide +kernel
theorem dX12_isSimple_27 : decode cX12_isSimple 27 = .ok (.aload_n 0, 1) := by decide +kernel
theorem dX12_isSimple_28 : decode cX12_isSimple 28 = .ok (.iload_n 2, 1) := by decide +kernel
theorem dX12_isSimple_29 : decode cX12_isSimple 29 = .ok (.invokevirtual 278, 3) := by decide +kernel
theorem dX12_isSimple_32 : decode cX12_isSimple 32 = .ok (.if_icmp .ne 18, 3) := by decide +kernel
theorem dX12_isSimple_35 : decode cX12_isSimple 35 = .ok (.aload_n 0, 1) := by decide +kernel
theorem dX12_isSimple_36 : decode cX12_isSimple 36 = .ok (.iload_n 1, 1) := by decide +kernel
theorem dX12_isSimple_37 : decode cX12_isSimple 37 = .ok (.invokevirtual 282, 3) := by decide +kernel
theorem dX12_isSimple_40 : decode cX12_isSimple 40 = .ok (.aload_n 0, 1) := by decide +kernel
theorem dX12_isSimple_41 : decode cX12_isSimple 41 = .ok (.iload_n 2, 1) := by decide +kernel
theorem dX12_isSimple_42 : decode cX12_isSimple 42 = .ok (.invokevirtual 282, 3) := by decide +kernel
theorem dX12_isSimple_45 : decode cX12_isSimple 45 = .ok (.if_icmp .ne 5, 3) := by decide +kernel
theorem dX12_isSimple_48 : decode cX12_isSimple 48 = .ok (.iconst 0, 1) := by decide +kernel
theorem dX12_isSimple_49 : decode cX12_isSimple 49 = .ok (.ireturn, 1) := by decide +kernel
theorem dX12_isSimple_50 : decode cX12_isSimple 50 = .ok (.iinc 2 1, 3) := by decide +kernel
theorem dX12_isSimple_53 : decode cX12_isSimple 53 = .ok (.goto (-39), 3) := by decide +kernel
theorem dX12_isSimple_56 : decode cX12_isSimple 56 = .ok (.iinc 1 1, 3) := by decide +kernel
theorem dX12_isSimple_59 : decode cX12_isSimple 59 = .ok (.goto (-57), 3) := by decide +kernel
theorem dX12_isSimple_62 : decode cX12_isSimple 62 = .ok (.iconst 0, 1) := by decide +kernel
theorem dX12_isSimple_63 : decode cX12_isSimple 63 = .ok (.istore_n 1, 1) := by decide +kernel
theorem dX12_isSimple_64 : decode cX12_isSimple 64 = .ok (.iload_n 1, 1) := by decide +kernel
theorem dX12_isSimple_65 : decode cX12_isSimple 65 = .ok (.aload_n 0, 1) := by decide +kernel
theorem dX12_isSimple_66 : decode cX12_isSimple 66 = .ok (.getfield 275, 3) := by decide +kernel
theorem dX12_isSimple_69 : decode cX12_isSimple 69 = .ok (.if_icmp .ge 94, 3) := by decide +kernel
theorem dX12_isSimple_72 : decode cX12_isSimple 72 = .ok (.aload_n 0, 1) := by decide +kernel
theorem dX12_isSimple_73 : decode cX12_isSimple 73 = .ok (.iload_n 1, 1) := by decide +kernel
theorem dX12_isSimple_74 : decode cX12_isSimple 74 = .ok (.aload_n 0, 1) := by decide +kernel
theorem dX12_isSimple_75 : decode cX12_isSimple 75 = .ok (.iload_n 1, 1) := by decide +kernel
theorem dX12_isSimple_76 : decode cX12_isSimple 76 = .ok (.iconst 2, 1) := by decide +kernel
theorem dX12_isSimple_77 : decode cX12_isSimple 77 = .ok (.iadd, 1) := by decide +kernel
theorem dX12_isSimple_78 : decode cX12_isSimple 78 = .ok (.invokevirtual 278, 3) := by decide +kernel
theorem dX12_isSimple_81 : decode cX12_isSimple 81 = .ok (.aload_n 0, 1) := by decide +kernel
theorem dX12_isSimple_82 : decode cX12_isSimple 82 = .ok (.iload_n 1, 1) := by decide +kernel
theorem dX12_isSimple_83 : decode cX12_isSimple 83 = .ok (.iconst 2, 1) := by decide +kernel
theorem dX12_isSimple_84 : decode cX12_isSimple 84 = .ok (.iadd, 1) := by decide +kernel
theorem dX12_isSimple_85 : decode cX12_isSimple 85 = .ok (.invokevirtual 282, 3) := by decide +kernel
theorem dX12_isSimple_88 : decode cX12_isSimple 88 = .ok (.invokevirtual 292, 3) := by decide +kernel
theorem dX12_isSimple_91 : decode cX12_isSimple 91 = .ok (.ifCond .ne 23, 3) := by decide +kernel
theorem dX12_isSimple_94 : decode cX12_isSimple 94 = .ok (.aload_n 0, 1) := by decide +kernel
theorem dX12_isSimple_95 : decode cX12_isSimple 95 = .ok (.iload_n 1, 1) := by decide +kernel
theorem dX12_isSimple_96 : decode cX12_isSimple 96 = .ok (.iconst 1, 1) := by decide +kernel
theorem dX12_isSimple_97 : decode cX12_isSimple 97 = .ok (.iadd, 1) := by decide +kernel
theorem dX12_isSimple_98 : decode cX12_isSimple 98 = .ok (.aload_n 0, 1) := by decide +kernel
theorem dX12_isSimple_99 : decode cX12_isSimple 99 = .ok (.iload_n 1, 1) := by decide +kernel
theorem dX12_isSimple_100 : decode cX12_isSimple 100 = .ok (.invokevirtual 278, 3) := by decide +kernel
theorem dX12_isSimple_103 : decode cX12_isSimple 103 = .ok (.aload_n 0, 1) := by decide +kernel
theorem dX12_isSimple_104 : decode cX12_isSimple 104 = .ok (.iload_n 1, 1) := by decide +kernel
theorem dX12_isSimple_105 : decode cX12_isSimple 105 = .ok (.invokevirtual 282, 3) := by decide +kernel
theorem dX12_isSimple_108 : decode cX12_isSimple 108 = .ok (.invokevirtual 292, 3) := by decide +kernel
theorem dX12_isSimple_111 : decode cX12_isSimple 111 = .ok (.ifCond .eq 5, 3) := by decide +kernel
theorem dX12_isSimple_114 : decode cX12_isSimple 114 = .ok (.iconst 0, 1) := by decide +kernel
theorem dX12_isSimple_115 : decode cX12_isSimple 115 = .ok (.ireturn, 1) := by decide +kernel
theorem dX12_isSimple_116 : decode cX12_isSimple 116 = .ok (.iload_n 1, 1) := by decide +kernel
theorem dX12_isSimple_117 : decode cX12_isSimple 117 = .ok (.iconst 2, 1) := by decide +kernel
theorem dX12_isSimple_118 : decode cX12_isSimple 118 = .ok (.iadd, 1) := by decide +kernel
theorem dX12_isSimple_119 : decode cX12_isSimple 119 = .ok (.istore_n 2, 1) := by decide +kernel
theorem dX12_isSimple_120 : decode cX12_isSimple 120 = .ok (.iload_n 2, 1) := by decide +kernel
theorem dX12_isSimple_121 : decode cX12_isSimple 121 = .ok (.aload_n 0, 1) := by decide +kernel
theorem dX12_isSimple_122 : decode cX12_isSimple 122 = .ok (.getfield 275, 3) := by decide +kernel
theorem dX12_isSimple_125 : decode cX12_isSimple 125 = .ok (.if_icmp .ge 32, 3) := by decide +kernel
theorem dX12_isSimple_128 : decode cX12_isSimple 128 = .ok (.iload_n 2, 1) := by decide +kernel
theorem dX12_isSimple_129 : decode cX12_isSimple 129 = .ok (.iconst 1, 1) := by decide +kernel
theorem dX12_isSimple_130 : decode cX12_isSimple 130 = .ok (.iadd, 1) := by decide +kernel
theorem dX12_isSimple_131 : decode cX12_isSimple 131 = .ok (.aload_n 0, 1) := by decide +kernel
theorem dX12_isSimple_132 : decode cX12_isSimple 132 = .ok (.getfield 275, 3) := by decide +kernel
theorem dX12_isSimple_135 : decode cX12_isSimple 135 = .ok (.isub, 1) := by decide +kernel
theorem dX12_isSimple_136 : decode cX12_isSimple 136 = .ok (.iload_n 1, 1) := by decide +kernel
theorem dX12_isSimple_137 : decode cX12_isSimple 137 = .ok (.if_icmp .eq 14, 3) := by decide +kernel
theorem dX12_isSimple_140 : decode cX12_isSimple 140 = .ok (.aload_n 0, 1) := by decide +kernel
theorem dX12_isSimple_141 : decode cX12_isSimple 141 = .ok (.iload_n 1, 1) := by decide +kernel
theorem dX12_isSimple_142 : decode cX12_isSimple 142 = .ok (.iload_n 2, 1) := by decide +kernel
theorem dX12_isSimple_143 : decode cX12_isSimple 143 = .ok (.invokevirtual 295, 3) := by decide +kernel
theorem dX12_isSimple_146 : decode cX12_isSimple 146 = .ok (.ifCond .eq 5, 3) := by decide +kernel
theorem dX12_isSimple_149 : decode cX12_isSimple 149 = .ok (.iconst 0, 1) := by decide +kernel
theorem dX12_isSimple_150 : decode cX12_isSimple 150 = .ok (.ireturn, 1) := by decide +kernel
theorem dX12_isSimple_151 : decode cX12_isSimple 151 = .ok (.iinc 2 1, 3) := by decide +kernel
theorem dX12_isSimple_154 : decode cX12_isSimple 154 = .ok (.goto (-34), 3) := by decide +kernel
theorem dX12_isSimple_157 : decode cX12_isSimple 157 = .ok (.iinc 1 1, 3) := by decide +kernel
theorem dX12_isSimple_160 : decode cX12_isSimple 160 = .ok (.goto (-96), 3) := by decide +kernel
theorem dX12_isSimple_163 : decode cX12_isSimple 163 = .ok (.iconst 1, 1) := by decide +kernel
theorem dX12_isSimple_164 : decode cX12_isSimple 164 = .ok (.ireturn, 1) := by decide +kernel
def L_M_isSimple_120 (k64 : Int32 → CS → Option (Int32 × CS)) (x1 : Int32) : Nat → Int32 → CS → Option (Int32 × CS)
  | 0, _, _ => none
  | n + 1, x2, σ => if (σ.1 9) ≤ x2 then k64 (x1 + 1) σ else if ((x2 + 1) - (σ.1 9)) = x1 then (L_M_isSimple_120 k64 x1 n) (x2 + 1) σ else bnd (f_M_isMet x1 x2 σ) (fun r143 σ143 => if r143 = 0 then (L_M_isSimple_120 k64 x1 n) (x2 + 1) σ143 else some (0, σ143))
set_option maxHeartbeats 4000000 in
set_option maxRecDepth 100000 in
theorem w_M_isSimple_120 (C : Cx g p s m args meth c A 3 cX12_isSimple yX12_isSimple.cls) (hr : meth.sig.returnType = (some .boolean))  {res : Int32 × CS}  (x1 : Int32) {k64 : Int32 → CS → Option (Int32 × CS)} (hk64 : ∀ (x1 : Int32) (σ : CS), k64 x1 σ = some res → NMI g p l e s m args below meth c A 3 75 3 am Rr res σ [(0, .ref (am 112)), (1, .int x1)] 64 []) : ∀ (n : Nat) (x2 : Int32) (σ : CS), L_M_isSimple_120 k64 x1 n x2 σ = some res → NMI g p l e s m args below meth c A 3 75 3 am Rr res σ [(0, .ref (am 112)), (1, .int x1), (2, .int x2)] 120 [] := by
  intro n
  induction n with
  | zero =>
    intro x2 σ h
    exact absurd (show (none : Option (Int32 × CS)) = some res from h) (by intro h9; cases h9)
  | succ n ih =>
    intro x2 σ h
    rw [L_M_isSimple_120] at h
    refine nw_iload_n C dX12_isSimple_120 rfl 2 rfl ?_
    refine nw_aload_n C dX12_isSimple_121 rfl 0 rfl ?_
    refine nw_get (v := .int (σ.1 9)) C in_X12 0 ml_O rfl 9 (by decide) tw_1582 rfl mf_9 dX12_isSimple_122 ?_
    refine nw_icmp_ge (tgt := 157) C dX12_isSimple_125 (by decide) h (fun _ h => ?_) (fun _ h => ?_)
    · refine nw_iinc (lv' := [(1, .int (x1 + 1)), (0, .ref (am 112)), (2, .int x2)]) C (x1 + 1) dX12_isSimple_157 1 rfl rfl (by decide) rfl ?_
      refine nw_goto (tgt := 64) C dX12_isSimple_160 (by decide) ?_
      exact nw_lv (lv' := [(0, .ref (am 112)), (1, .int (x1 + 1))]) [1, 0] rfl (hk64 (x1 + 1) _ h)
    · refine nw_iload_n C dX12_isSimple_128 rfl 2 rfl ?_
      refine nw_iconst (v := 1) C dX12_isSimple_129 (by decide) ?_
      refine nw_iadd C dX12_isSimple_130 ?_
      refine nw_aload_n C dX12_isSimple_131 rfl 0 rfl ?_
      refine nw_get (v := .int (σ.1 9)) C in_X12 0 ml_O rfl 9 (by decide) tw_1582 rfl mf_9 dX12_isSimple_132 ?_
      refine nw_isub C dX12_isSimple_135 ?_
      refine nw_iload_n C dX12_isSimple_136 rfl 1 rfl ?_
      refine nw_icmp_eq (tgt := 151) C dX12_isSimple_137 (by decide) h (fun _ h => ?_) (fun _ h => ?_)
      · refine nw_iinc (lv' := [(2, .int (x2 + 1)), (0, .ref (am 112)), (1, .int x1)]) C (x2 + 1) dX12_isSimple_151 2 rfl rfl (by decide) rfl ?_
        refine nw_goto (tgt := 120) C dX12_isSimple_154 (by decide) ?_
        exact nw_lv (lv' := [(0, .ref (am 112)), (1, .int x1), (2, .int (x2 + 1))]) [1, 2, 0] rfl (ih (x2 + 1) _ h)
      · refine nw_aload_n C dX12_isSimple_140 rfl 0 rfl ?_
        refine nw_iload_n C dX12_isSimple_141 rfl 1 rfl ?_
        refine nw_iload_n C dX12_isSimple_142 rfl 2 rfl ?_
        refine nm_callVI (q0 := 0) (As := [.int x1, .int x2]) (rest := []) C h (fun _ _ e => c_M_isMet e) tw_1962 kv_X12_isMet ml_O rfl ⟨Nat.le_of_ble_eq_true rfl, Nat.le_of_ble_eq_true rfl⟩ rfl dX12_isSimple_143 rfl (Nat.le_of_ble_eq_true rfl) (fun r143 σ143 h => ?_)
        refine nw_if_eq (tgt := 151) C dX12_isSimple_146 (by decide) h (fun _ h => ?_) (fun _ h => ?_)
        · refine nw_iinc (lv' := [(2, .int (x2 + 1)), (0, .ref (am 112)), (1, .int x1)]) C (x2 + 1) dX12_isSimple_151 2 rfl rfl (by decide) rfl ?_
          refine nw_goto (tgt := 120) C dX12_isSimple_154 (by decide) ?_
          exact nw_lv (lv' := [(0, .ref (am 112)), (1, .int x1), (2, .int (x2 + 1))]) [1, 2, 0] rfl (ih (x2 + 1) _ h)
        · refine nw_iconst (v := 0) C dX12_isSimple_149 (by decide) ?_
          exact nm_zret C hr (Or.inl rfl) dX12_isSimple_150 h
def L_M_isSimple_64   : Nat → Int32 → CS → Option (Int32 × CS)
  | 0, _, _ => none
  | n + 1, x1, σ => if (σ.1 9) ≤ x1 then some (1, σ) else bnd (f_M_x (x1 + 2) σ) (fun r78 σ78 => bnd (f_M_y (x1 + 2) σ78) (fun r85 σ85 => bnd (f_M_isOn x1 r78 r85 σ85) (fun r88 σ88 => if r88 = 0 then bnd (f_M_x x1 σ88) (fun r100 σ100 => bnd (f_M_y x1 σ100) (fun r105 σ105 => bnd (f_M_isOn (x1 + 1) r100 r105 σ105) (fun r108 σ108 => if r108 = 0 then L_M_isSimple_120 (L_M_isSimple_64 n) x1 FU (x1 + 2) σ108 else some (0, σ108)))) else some (0, σ88))))
set_option maxHeartbeats 4000000 in
set_option maxRecDepth 100000 in
theorem w_M_isSimple_64 (C : Cx g p s m args meth c A 3 cX12_isSimple yX12_isSimple.cls) (hr : meth.sig.returnType = (some .boolean))  {res : Int32 × CS}    : ∀ (n : Nat) (x1 : Int32) (σ : CS), L_M_isSimple_64 n x1 σ = some res → NMI g p l e s m args below meth c A 3 75 3 am Rr res σ [(0, .ref (am 112)), (1, .int x1)] 64 [] := by
  intro n
  induction n with
  | zero =>
    intro x1 σ h
    exact absurd (show (none : Option (Int32 × CS)) = some res from h) (by intro h9; cases h9)
  | succ n ih =>
    intro x1 σ h
    rw [L_M_isSimple_64] at h
    refine nw_iload_n C dX12_isSimple_64 rfl 1 rfl ?_
    refine nw_aload_n C dX12_isSimple_65 rfl 0 rfl ?_
    refine nw_get (v := .int (σ.1 9)) C in_X12 0 ml_O rfl 9 (by decide) tw_1582 rfl mf_9 dX12_isSimple_66 ?_
    refine nw_icmp_ge (tgt := 163) C dX12_isSimple_69 (by decide) h (fun _ h => ?_) (fun _ h => ?_)
    · refine nw_iconst (v := 1) C dX12_isSimple_163 (by decide) ?_
      exact nm_zret C hr (Or.inr rfl) dX12_isSimple_164 h
    · refine nw_aload_n C dX12_isSimple_72 rfl 0 rfl ?_
      refine nw_iload_n C dX12_isSimple_73 rfl 1 rfl ?_
      refine nw_aload_n C dX12_isSimple_74 rfl 0 rfl ?_
      refine nw_iload_n C dX12_isSimple_75 rfl 1 rfl ?_
      refine nw_iconst (v := 2) C dX12_isSimple_76 (by decide) ?_
      refine nw_iadd C dX12_isSimple_77 ?_
      refine nm_callVI (q0 := 0) (As := [.int (x1 + 2)]) (rest := [.int x1, .ref (am 112)]) C h (fun _ _ e => c_M_x e) tw_1944 kv_X12_x ml_O rfl ⟨Nat.le_of_ble_eq_true rfl, Nat.le_of_ble_eq_true rfl⟩ rfl dX12_isSimple_78 rfl (Nat.le_of_ble_eq_true rfl) (fun r78 σ78 h => ?_)
      refine nw_aload_n C dX12_isSimple_81 rfl 0 rfl ?_
      refine nw_iload_n C dX12_isSimple_82 rfl 1 rfl ?_
      refine nw_iconst (v := 2) C dX12_isSimple_83 (by decide) ?_
      refine nw_iadd C dX12_isSimple_84 ?_
      refine nm_callVI (q0 := 0) (As := [.int (x1 + 2)]) (rest := [.int r78, .int x1, .ref (am 112)]) C h (fun _ _ e => c_M_y e) tw_1948 kv_X12_y ml_O rfl ⟨Nat.le_of_ble_eq_true rfl, Nat.le_of_ble_eq_true rfl⟩ rfl dX12_isSimple_85 rfl (Nat.le_of_ble_eq_true rfl) (fun r85 σ85 h => ?_)
      refine nm_callVI (q0 := 0) (As := [.int x1, .int r78, .int r85]) (rest := []) C h (fun _ _ e => c_M_isOn e) tw_1952 kv_X12_isOn ml_O rfl ⟨Nat.le_of_ble_eq_true rfl, Nat.le_of_ble_eq_true rfl⟩ rfl dX12_isSimple_88 rfl (Nat.le_of_ble_eq_true rfl) (fun r88 σ88 h => ?_)
      refine nw_if_ne (tgt := 114) C dX12_isSimple_91 (by decide) h (fun _ h => ?_) (fun _ h => ?_)
      · refine nw_aload_n C dX12_isSimple_94 rfl 0 rfl ?_
        refine nw_iload_n C dX12_isSimple_95 rfl 1 rfl ?_
        refine nw_iconst (v := 1) C dX12_isSimple_96 (by decide) ?_
        refine nw_iadd C dX12_isSimple_97 ?_
        refine nw_aload_n C dX12_isSimple_98 rfl 0 rfl ?_
        refine nw_iload_n C dX12_isSimple_99 rfl 1 rfl ?_
        refine nm_callVI (q0 := 0) (As := [.int x1]) (rest := [.int (x1 + 1), .ref (am 112)]) C h (fun _ _ e => c_M_x e) tw_1944 kv_X12_x ml_O rfl ⟨Nat.le_of_ble_eq_true rfl, Nat.le_of_ble_eq_true rfl⟩ rfl dX12_isSimple_100 rfl (Nat.le_of_ble_eq_true rfl) (fun r100 σ100 h => ?_)
        refine nw_aload_n C dX12_isSimple_103 rfl 0 rfl ?_
        refine nw_iload_n C dX12_isSimple_104 rfl 1 rfl ?_
        refine nm_callVI (q0 := 0) (As := [.int x1]) (rest := [.int r100, .int (x1 + 1), .ref (am 112)]) C h (fun _ _ e => c_M_y e) tw_1948 kv_X12_y ml_O rfl ⟨Nat.le_of_ble_eq_true rfl, Nat.le_of_ble_eq_true rfl⟩ rfl dX12_isSimple_105 rfl (Nat.le_of_ble_eq_true rfl) (fun r105 σ105 h => ?_)
        refine nm_callVI (q0 := 0) (As := [.int (x1 + 1), .int r100, .int r105]) (rest := []) C h (fun _ _ e => c_M_isOn e) tw_1952 kv_X12_isOn ml_O rfl ⟨Nat.le_of_ble_eq_true rfl, Nat.le_of_ble_eq_true rfl⟩ rfl dX12_isSimple_108 rfl (Nat.le_of_ble_eq_true rfl) (fun r108 σ108 h => ?_)
        refine nw_if_eq (tgt := 116) C dX12_isSimple_111 (by decide) h (fun _ h => ?_) (fun _ h => ?_)
        · refine nw_iload_n C dX12_isSimple_116 rfl 1 rfl ?_
          refine nw_iconst (v := 2) C dX12_isSimple_117 (by decide) ?_
          refine nw_iadd C dX12_isSimple_118 ?_
          refine nw_istore_n (lv' := [(2, .int (x1 + 2)), (0, .ref (am 112)), (1, .int x1)]) C dX12_isSimple_119 rfl (by decide) rfl ?_
          exact nw_lv (lv' := [(0, .ref (am 112)), (1, .int x1), (2, .int (x1 + 2))]) [1, 2, 0] rfl (w_M_isSimple_120 C hr x1 ih FU (x1 + 2) _ h)
        · refine nw_iconst (v := 0) C dX12_isSimple_114 (by decide) ?_
          exact nm_zret C hr (Or.inl rfl) dX12_isSimple_115 h
      · refine nw_iconst (v := 0) C dX12_isSimple_114 (by decide) ?_
        exact nm_zret C hr (Or.inl rfl) dX12_isSimple_115 h
def L_M_isSimple_14 (k2 : Int32 → CS → Option (Int32 × CS)) (x1 : Int32) : Nat → Int32 → CS → Option (Int32 × CS)
  | 0, _, _ => none
  | n + 1, x2, σ => if (σ.1 9) ≤ x2 then k2 (x1 + 1) σ else bnd (f_M_x x1 σ) (fun r24 σ24 => bnd (f_M_x x2 σ24) (fun r29 σ29 => if r24 = r29 then bnd (f_M_y x1 σ29) (fun r37 σ37 => bnd (f_M_y x2 σ37) (fun r42 σ42 => if r37 = r42 then some (0, σ42) else (L_M_isSimple_14 k2 x1 n) (x2 + 1) σ42)) else (L_M_isSimple_14 k2 x1 n) (x2 + 1) σ29))
set_option maxHeartbeats 4000000 in
set_option maxRecDepth 100000 in
theorem w_M_isSimple_14 (C : Cx g p s m args meth c A 3 cX12_isSimple yX12_isSimple.cls) (hr : meth.sig.returnType = (some .boolean))  {res : Int32 × CS}  (x1 : Int32) {k2 : Int32 → CS → Option (Int32 × CS)} (hk2 : ∀ (x1 : Int32) (σ : CS), k2 x1 σ = some res → NMI g p l e s m args below meth c A 3 75 3 am Rr res σ [(0, .ref (am 112)), (1, .int x1)] 2 []) : ∀ (n : Nat) (x2 : Int32) (σ : CS), L_M_isSimple_14 k2 x1 n x2 σ = some res → NMI g p l e s m args below meth c A 3 75 3 am Rr res σ [(0, .ref (am 112)), (1, .int x1), (2, .int x2)] 14 [] := by
  intro n
  induction n with
  | zero =>
    intro x2 σ h
    exact absurd (show (none : Option (Int32 × CS)) = some res from h) (by intro h9; cases h9)
  | succ n ih =>
    intro x2 σ h
    rw [L_M_isSimple_14] at h
    refine nw_iload_n C dX12_isSimple_14 rfl 2 rfl ?_
    refine nw_aload_n C dX12_isSimple_15 rfl 0 rfl ?_
    refine nw_get (v := .int (σ.1 9)) C in_X12 0 ml_O rfl 9 (by decide) tw_1582 rfl mf_9 dX12_isSimple_16 ?_
    refine nw_icmp_ge (tgt := 56) C dX12_isSimple_19 (by decide) h (fun _ h => ?_) (fun _ h => ?_)
    · refine nw_iinc (lv' := [(1, .int (x1 + 1)), (0, .ref (am 112)), (2, .int x2)]) C (x1 + 1) dX12_isSimple_56 1 rfl rfl (by decide) rfl ?_
      refine nw_goto (tgt := 2) C dX12_isSimple_59 (by decide) ?_
      exact nw_lv (lv' := [(0, .ref (am 112)), (1, .int (x1 + 1))]) [1, 0] rfl (hk2 (x1 + 1) _ h)
    · refine nw_aload_n C dX12_isSimple_22 rfl 0 rfl ?_
      refine nw_iload_n C dX12_isSimple_23 rfl 1 rfl ?_
      refine nm_callVI (q0 := 0) (As := [.int x1]) (rest := []) C h (fun _ _ e => c_M_x e) tw_1944 kv_X12_x ml_O rfl ⟨Nat.le_of_ble_eq_true rfl, Nat.le_of_ble_eq_true rfl⟩ rfl dX12_isSimple_24 rfl (Nat.le_of_ble_eq_true rfl) (fun r24 σ24 h => ?_)
      refine nw_aload_n C dX12_isSimple_27 rfl 0 rfl ?_
      refine nw_iload_n C dX12_isSimple_28 rfl 2 rfl ?_
      refine nm_callVI (q0 := 0) (As := [.int x2]) (rest := [.int r24]) C h (fun _ _ e => c_M_x e) tw_1944 kv_X12_x ml_O rfl ⟨Nat.le_of_ble_eq_true rfl, Nat.le_of_ble_eq_true rfl⟩ rfl dX12_isSimple_29 rfl (Nat.le_of_ble_eq_true rfl) (fun r29 σ29 h => ?_)
      refine nw_icmp_ne (tgt := 50) C dX12_isSimple_32 (by decide) h (fun _ h => ?_) (fun _ h => ?_)
      · refine nw_aload_n C dX12_isSimple_35 rfl 0 rfl ?_
        refine nw_iload_n C dX12_isSimple_36 rfl 1 rfl ?_
        refine nm_callVI (q0 := 0) (As := [.int x1]) (rest := []) C h (fun _ _ e => c_M_y e) tw_1948 kv_X12_y ml_O rfl ⟨Nat.le_of_ble_eq_true rfl, Nat.le_of_ble_eq_true rfl⟩ rfl dX12_isSimple_37 rfl (Nat.le_of_ble_eq_true rfl) (fun r37 σ37 h => ?_)
        refine nw_aload_n C dX12_isSimple_40 rfl 0 rfl ?_
        refine nw_iload_n C dX12_isSimple_41 rfl 2 rfl ?_
        refine nm_callVI (q0 := 0) (As := [.int x2]) (rest := [.int r37]) C h (fun _ _ e => c_M_y e) tw_1948 kv_X12_y ml_O rfl ⟨Nat.le_of_ble_eq_true rfl, Nat.le_of_ble_eq_true rfl⟩ rfl dX12_isSimple_42 rfl (Nat.le_of_ble_eq_true rfl) (fun r42 σ42 h => ?_)
        refine nw_icmp_ne (tgt := 50) C dX12_isSimple_45 (by decide) h (fun _ h => ?_) (fun _ h => ?_)
        · refine nw_iconst (v := 0) C dX12_isSimple_48 (by decide) ?_
          exact nm_zret C hr (Or.inl rfl) dX12_isSimple_49 h
        · refine nw_iinc (lv' := [(2, .int (x2 + 1)), (0, .ref (am 112)), (1, .int x1)]) C (x2 + 1) dX12_isSimple_50 2 rfl rfl (by decide) rfl ?_
          refine nw_goto (tgt := 14) C dX12_isSimple_53 (by decide) ?_
          exact nw_lv (lv' := [(0, .ref (am 112)), (1, .int x1), (2, .int (x2 + 1))]) [1, 2, 0] rfl (ih (x2 + 1) _ h)
      · refine nw_iinc (lv' := [(2, .int (x2 + 1)), (0, .ref (am 112)), (1, .int x1)]) C (x2 + 1) dX12_isSimple_50 2 rfl rfl (by decide) rfl ?_
        refine nw_goto (tgt := 14) C dX12_isSimple_53 (by decide) ?_
        exact nw_lv (lv' := [(0, .ref (am 112)), (1, .int x1), (2, .int (x2 + 1))]) [1, 2, 0] rfl (ih (x2 + 1) _ h)
def L_M_isSimple_2   : Nat → Int32 → CS → Option (Int32 × CS)
  | 0, _, _ => none
  | n + 1, x1, σ => if (σ.1 9) ≤ x1 then L_M_isSimple_64 FU 0 σ else L_M_isSimple_14 (L_M_isSimple_2 n) x1 FU (x1 + 1) σ
set_option maxHeartbeats 4000000 in
set_option maxRecDepth 100000 in
theorem w_M_isSimple_2 (C : Cx g p s m args meth c A 3 cX12_isSimple yX12_isSimple.cls) (hr : meth.sig.returnType = (some .boolean))  {res : Int32 × CS}    : ∀ (n : Nat) (x1 : Int32) (σ : CS), L_M_isSimple_2 n x1 σ = some res → NMI g p l e s m args below meth c A 3 75 3 am Rr res σ [(0, .ref (am 112)), (1, .int x1)] 2 [] := by
  intro n
  induction n with
  | zero =>
    intro x1 σ h
    exact absurd (show (none : Option (Int32 × CS)) = some res from h) (by intro h9; cases h9)
  | succ n ih =>
    intro x1 σ h
    rw [L_M_isSimple_2] at h
    refine nw_iload_n C dX12_isSimple_2 rfl 1 rfl ?_
    refine nw_aload_n C dX12_isSimple_3 rfl 0 rfl ?_
    refine nw_get (v := .int (σ.1 9)) C in_X12 0 ml_O rfl 9 (by decide) tw_1582 rfl mf_9 dX12_isSimple_4 ?_
    refine nw_icmp_ge (tgt := 62) C dX12_isSimple_7 (by decide) h (fun _ h => ?_) (fun _ h => ?_)
    · refine nw_iconst (v := 0) C dX12_isSimple_62 (by decide) ?_
      refine nw_istore_n (lv' := [(1, .int 0), (0, .ref (am 112))]) C dX12_isSimple_63 rfl (by decide) rfl ?_
      exact nw_lv (lv' := [(0, .ref (am 112)), (1, .int 0)]) [1, 0] rfl (w_M_isSimple_64 C hr FU 0 _ h)
    · refine nw_iload_n C dX12_isSimple_10 rfl 1 rfl ?_
      refine nw_iconst (v := 1) C dX12_isSimple_11 (by decide) ?_
      refine nw_iadd C dX12_isSimple_12 ?_
      refine nw_istore_n (lv' := [(2, .int (x1 + 1)), (0, .ref (am 112)), (1, .int x1)]) C dX12_isSimple_13 rfl (by decide) rfl ?_
      exact nw_lv (lv' := [(0, .ref (am 112)), (1, .int x1), (2, .int (x1 + 1))]) [1, 2, 0] rfl (w_M_isSimple_14 C hr x1 ih FU (x1 + 1) _ h)
def f_M_isSimple  (σ : CS) : Option (Int32 × CS) := L_M_isSimple_2 FU 0 σ
set_option maxHeartbeats 4000000 in
set_option maxRecDepth 100000 in
theorem c_M_isSimple {l : Launch} {g : EG} {am : Nat → Nat} {Rr : va_W} {σ σ' : CS} {r : Int32}   (h : f_M_isSimple σ = some (r, σ')) : CmI l g yX12_isSimple (.code yX12_isSimple cX12_isSimple 3 (some .boolean)) 3 75 am Rr σ [.ref (am 112)] r σ' := by
  refine Ct.of rfl (by decide) (Nat.le_of_ble_eq_true rfl) ?_
  intro p e s m args below meth c A C hr
  show NMI g p l e s m args below meth c A 3 75 3 am Rr (r, σ') σ [(0, .ref (am 112))] 0 []
  unfold f_M_isSimple at h
  refine nw_iconst (v := 0) C dX12_isSimple_0 (by decide) ?_
  refine nw_istore_n (lv' := [(1, .int 0), (0, .ref (am 112))]) C dX12_isSimple_1 rfl (by decide) rfl ?_
  exact nw_lv (lv' := [(0, .ref (am 112)), (1, .int 0)]) [1, 0] rfl (w_M_isSimple_2 C hr FU 0 _ h)
theorem dX12_ring_0 : decode cX12_ring 0 = .ok (.aload_n 0, 1) := by decide +kernel
theorem dX12_ring_1 : decode cX12_ring 1 = .ok (.iconst 0, 1) := by decide +kernel
theorem dX12_ring_2 : decode cX12_ring 2 = .ok (.putfield 253, 3) := by decide +kernel
theorem dX12_ring_5 : decode cX12_ring 5 = .ok (.aload_n 0, 1) := by decide +kernel
theorem dX12_ring_6 : decode cX12_ring 6 = .ok (.iload_n 1, 1) := by decide +kernel
theorem dX12_ring_7 : decode cX12_ring 7 = .ok (.invokestatic 298, 3) := by decide +kernel
theorem dX12_ring_10 : decode cX12_ring 10 = .ok (.ifCond .eq 15, 3) := by decide +kernel
theorem dX12_ring_13 : decode cX12_ring 13 = .ok (.iload_n 2, 1) := by decide +kernel
theorem dX12_ring_14 : decode cX12_ring 14 = .ok (.ifCond .lt 11, 3) := by decide +kernel
theorem dX12_ring_17 : decode cX12_ring 17 = .ok (.iload_n 2, 1) := by decide +kernel
theorem dX12_ring_18 : decode cX12_ring 18 = .ok (.aload_n 0, 1) := by decide +kernel
theorem dX12_ring_19 : decode cX12_ring 19 = .ok (.getfield 272, 3) := by decide +kernel
theorem dX12_ring_22 : decode cX12_ring 22 = .ok (.if_icmp .le 7, 3) := by decide +kernel
theorem dX12_ring_25 : decode cX12_ring 25 = .ok (.iconst 1, 1) := by decide +kernel
theorem dX12_ring_26 : decode cX12_ring 26 = .ok (.goto 4, 3) := by decide +kernel
theorem dX12_ring_29 : decode cX12_ring 29 = .ok (.iconst 0, 1) := by decide +kernel
theorem dX12_ring_30 : decode cX12_ring 30 = .ok (.iconst 1, 1) := by decide +kernel
theorem dX12_ring_31 : decode cX12_ring 31 = .ok (.invokevirtual 265, 3) := by decide +kernel
theorem dX12_ring_34 : decode cX12_ring 34 = .ok (.ifCond .eq 5, 3) := by decide +kernel
theorem dX12_ring_37 : decode cX12_ring 37 = .ok (.iconst 0, 1) := by decide +kernel
theorem dX12_ring_38 : decode cX12_ring 38 = .ok (.ireturn, 1) := by decide +kernel
theorem dX12_ring_39 : decode cX12_ring 39 = .ok (.aload_n 0, 1) := by decide +kernel
theorem dX12_ring_40 : decode cX12_ring 40 = .ok (.iconst 0, 1) := by decide +kernel
theorem dX12_ring_41 : decode cX12_ring 41 = .ok (.putfield 272, 3) := by decide +kernel
theorem dX12_ring_44 : decode cX12_ring 44 = .ok (.aload_n 0, 1) := by decide +kernel
theorem dX12_ring_45 : decode cX12_ring 45 = .ok (.getfield 302, 3) := by decide +kernel
theorem dX12_ring_48 : decode cX12_ring 48 = .ok (.bipush 12, 2) := by decide +kernel
theorem dX12_ring_50 : decode cX12_ring 50 = .ok (.if_icmp .ne 5, 3) := by decide +kernel
theorem dX12_ring_53 : decode cX12_ring 53 = .ok (.iconst (-1), 1) := by decide +kernel
theorem dX12_ring_54 : decode cX12_ring 54 = .ok (.ireturn, 1) := by decide +kernel
theorem dX12_ring_55 : decode cX12_ring 55 = .ok (.iload_n 2, 1) := by decide +kernel
theorem dX12_ring_56 : decode cX12_ring 56 = .ok (.iconst 3, 1) := by decide +kernel
theorem dX12_ring_57 : decode cX12_ring 57 = .ok (.bipush 10, 2) := by decide +kernel
theorem dX12_ring_59 : decode cX12_ring 59 = .ok (.invokestatic 257, 3) := by decide +kernel
theorem dX12_ring_62 : decode cX12_ring 62 = .ok (.ifCond .ne 6, 3) := by decide +kernel
theorem dX12_ring_65 : decode cX12_ring 65 = .ok (.bipush (-2), 2) := by decide +kernel
theorem dX12_ring_67 : decode cX12_ring 67 = .ok (.ireturn, 1) := by decide +kernel
theorem dX12_ring_68 : decode cX12_ring 68 = .ok (.aload_n 0, 1) := by decide +kernel
theorem dX12_ring_69 : decode cX12_ring 69 = .ok (.iload_n 2, 1) := by decide +kernel
theorem dX12_ring_70 : decode cX12_ring 70 = .ok (.putfield 275, 3) := by decide +kernel
theorem dX12_ring_73 : decode cX12_ring 73 = .ok (.iconst 0, 1) := by decide +kernel
theorem dX12_ring_74 : decode cX12_ring 74 = .ok (.istore_n 3, 1) := by decide +kernel
theorem dX12_ring_75 : decode cX12_ring 75 = .ok (.iload_n 3, 1) := by decide +kernel
theorem dX12_ring_76 : decode cX12_ring 76 = .ok (.iload_n 2, 1) := by decide +kernel
theorem dX12_ring_77 : decode cX12_ring 77 = .ok (.if_icmp .ge 41, 3) := by decide +kernel
theorem dX12_ring_80 : decode cX12_ring 80 = .ok (.aload_n 0, 1) := by decide +kernel
theorem dX12_ring_81 : decode cX12_ring 81 = .ok (.getfield 23, 3) := by decide +kernel
theorem dX12_ring_84 : decode cX12_ring 84 = .ok (.iload_n 3, 1) := by decide +kernel
theorem dX12_ring_85 : decode cX12_ring 85 = .ok (.aload_n 0, 1) := by decide +kernel
theorem dX12_ring_86 : decode cX12_ring 86 = .ok (.getfield 19, 3) := by decide +kernel
theorem dX12_ring_89 : decode cX12_ring 89 = .ok (.iload_n 3, 1) := by decide +kernel
theorem dX12_ring_90 : decode cX12_ring 90 = .ok (.baload, 1) := by decide +kernel
theorem dX12_ring_91 : decode cX12_ring 91 = .ok (.sipush 255, 3) := by decide +kernel
theorem dX12_ring_94 : decode cX12_ring 94 = .ok (.iand, 1) := by decide +kernel
theorem dX12_ring_95 : decode cX12_ring 95 = .ok (.iastore, 1) := by decide +kernel
theorem dX12_ring_96 : decode cX12_ring 96 = .ok (.aload_n 0, 1) := by decide +kernel
theorem dX12_ring_97 : decode cX12_ring 97 = .ok (.getfield 23, 3) := by decide +kernel
theorem dX12_ring_100 : decode cX12_ring 100 = .ok (.iload_n 3, 1) := by decide +kernel
theorem dX12_ring_101 : decode cX12_ring 101 = .ok (.iaload, 1) := by decide +kernel
theorem dX12_ring_102 : decode cX12_ring 102 = .ok (.aload_n 0, 1) := by decide +kernel
theorem dX12_ring_103 : decode cX12_ring 103 = .ok (.getfield 269, 3) := by decide +kernel
theorem dX12_ring_106 : decode cX12_ring 106 = .ok (.if_icmp .lt 6, 3) := by decide +kernel
theorem dX12_ring_109 : decode cX12_ring 109 = .ok (.bipush (-3), 2) := by decide +kernel
theorem dX12_ring_111 : decode cX12_ring 111 = .ok (.ireturn, 1) := by decide +kernel
theorem dX12_ring_112 : decode cX12_ring 112 = .ok (.iinc 3 1, 3) := by decide +kernel
theorem dX12_ring_115 : decode cX12_ring 115 = .ok (.goto (-40), 3) := by decide +kernel
theorem dX12_ring_118 : decode cX12_ring 118 = .ok (.aload_n 0, 1) := by decide +kernel
theorem dX12_ring_119 : decode cX12_ring 119 = .ok (.invokevirtual 305, 3) := by decide +kernel
theorem dX12_ring_122 : decode cX12_ring 122 = .ok (.ifCond .ne 6, 3) := by decide +kernel
theorem dX12_ring_125 : decode cX12_ring 125 = .ok (.bipush (-4), 2) := by decide +kernel
theorem dX12_ring_127 : decode cX12_ring 127 = .ok (.ireturn, 1) := by decide +kernel
theorem dX12_ring_128 : decode cX12_ring 128 = .ok (.iconst 0, 1) := by decide +kernel
theorem dX12_ring_129 : decode cX12_ring 129 = .ok (.istore_n 3, 1) := by decide +kernel
theorem dX12_ring_130 : decode cX12_ring 130 = .ok (.iload_n 3, 1) := by decide +kernel
theorem dX12_ring_131 : decode cX12_ring 131 = .ok (.iload_n 2, 1) := by decide +kernel
theorem dX12_ring_132 : decode cX12_ring 132 = .ok (.if_icmp .ge 29, 3) := by decide +kernel
theorem dX12_ring_135 : decode cX12_ring 135 = .ok (.aload_n 0, 1) := by decide +kernel
theorem dX12_ring_136 : decode cX12_ring 136 = .ok (.getfield 26, 3) := by decide +kernel
theorem dX12_ring_139 : decode cX12_ring 139 = .ok (.bipush 10, 2) := by decide +kernel
theorem dX12_ring_141 : decode cX12_ring 141 = .ok (.aload_n 0, 1) := by decide +kernel
theorem dX12_ring_142 : decode cX12_ring 142 = .ok (.getfield 302, 3) := by decide +kernel
theorem dX12_ring_145 : decode cX12_ring 145 = .ok (.imul, 1) := by decide +kernel
theorem dX12_ring_146 : decode cX12_ring 146 = .ok (.iload_n 3, 1) := by decide +kernel
theorem dX12_ring_147 : decode cX12_ring 147 = .ok (.iadd, 1) := by decide +kernel
theorem dX12_ring_148 : decode cX12_ring 148 = .ok (.aload_n 0, 1) := by decide +kernel
theorem dX12_ring_149 : decode cX12_ring 149 = .ok (.getfield 23, 3) := by decide +kernel
theorem dX12_ring_152 : decode cX12_ring 152 = .ok (.iload_n 3, 1) := by decide +kernel
theorem dX12_ring_153 : decode cX12_ring 153 = .ok (.iaload, 1) := by decide +kernel
theorem dX12_ring_154 : decode cX12_ring 154 = .ok (.iastore, 1) := by decide +kernel
theorem dX12_ring_155 : decode cX12_ring 155 = .ok (.iinc 3 1, 3) := by decide +kernel
theorem dX12_ring_158 : decode cX12_ring 158 = .ok (.goto (-28), 3) := by decide +kernel
theorem dX12_ring_161 : decode cX12_ring 161 = .ok (.aload_n 0, 1) := by decide +kernel
theorem dX12_ring_162 : decode cX12_ring 162 = .ok (.getfield 29, 3) := by decide +kernel
theorem dX12_ring_165 : decode cX12_ring 165 = .ok (.aload_n 0, 1) := by decide +kernel
theorem dX12_ring_166 : decode cX12_ring 166 = .ok (.getfield 302, 3) := by decide +kernel
theorem dX12_ring_169 : decode cX12_ring 169 = .ok (.iload_n 2, 1) := by decide +kernel
theorem dX12_ring_170 : decode cX12_ring 170 = .ok (.iastore, 1) := by decide +kernel
theorem dX12_ring_171 : decode cX12_ring 171 = .ok (.aload_n 0, 1) := by decide +kernel
theorem dX12_ring_172 : decode cX12_ring 172 = .ok (.getfield 32, 3) := by decide +kernel
theorem dX12_ring_175 : decode cX12_ring 175 = .ok (.aload_n 0, 1) := by decide +kernel
theorem dX12_ring_176 : decode cX12_ring 176 = .ok (.getfield 302, 3) := by decide +kernel
theorem dX12_ring_179 : decode cX12_ring 179 = .ok (.iload_n 1, 1) := by decide +kernel
theorem dX12_ring_180 : decode cX12_ring 180 = .ok (.iastore, 1) := by decide +kernel
theorem dX12_ring_181 : decode cX12_ring 181 = .ok (.aload_n 0, 1) := by decide +kernel
theorem dX12_ring_182 : decode cX12_ring 182 = .ok (.getfield 35, 3) := by decide +kernel
theorem dX12_ring_185 : decode cX12_ring 185 = .ok (.aload_n 0, 1) := by decide +kernel
theorem dX12_ring_186 : decode cX12_ring 186 = .ok (.getfield 302, 3) := by decide +kernel
theorem dX12_ring_189 : decode cX12_ring 189 = .ok (.iconst (-1), 1) := by decide +kernel
theorem dX12_ring_190 : decode cX12_ring 190 = .ok (.iastore, 1) := by decide +kernel
theorem dX12_ring_191 : decode cX12_ring 191 = .ok (.aload_n 0, 1) := by decide +kernel
theorem dX12_ring_192 : decode cX12_ring 192 = .ok (.dup, 1) := by decide +kernel
theorem dX12_ring_193 : decode cX12_ring 193 = .ok (.getfield 302, 3) := by decide +kernel
theorem dX12_ring_196 : decode cX12_ring 196 = .ok (.iconst 1, 1) := by decide +kernel
theorem dX12_ring_197 : decode cX12_ring 197 = .ok (.iadd, 1) := by decide +kernel
theorem dX12_ring_198 : decode cX12_ring 198 = .ok (.putfield 302, 3) := by decide +kernel
theorem dX12_ring_201 : decode cX12_ring 201 = .ok (.aload_n 0, 1) := by decide +kernel
theorem dX12_ring_202 : decode cX12_ring 202 = .ok (.getfield 302, 3) := by decide +kernel
theorem dX12_ring_205 : decode cX12_ring 205 = .ok (.iconst 1, 1) := by decide +kernel
theorem dX12_ring_206 : decode cX12_ring 206 = .ok (.isub, 1) := by decide +kernel
theorem dX12_ring_207 : decode cX12_ring 207 = .ok (.ireturn, 1) := by decide +kernel
def L_M_ring_75 (k118 : Int32 → Int32 → CS → Option (Int32 × CS)) (x1 : Int32) (x2 : Int32) : Nat → Int32 → CS → Option (Int32 × CS)
  | 0, _, _ => none
  | n + 1, x3, σ => if x2 ≤ x3 then k118 x1 x2 σ else gix x3 400 (gix x3 10 (gix x3 10 (if (rd (wr σ 8 x3 ((rd σ 6 x3) &&& 255)) 8 x3) < (σ.1 2) then (L_M_ring_75 k118 x1 x2 n) (x3 + 1) (wr σ 8 x3 ((rd σ 6 x3) &&& 255)) else some ((-3), (wr σ 8 x3 ((rd σ 6 x3) &&& 255))))))
set_option maxHeartbeats 4000000 in
set_option maxRecDepth 100000 in
theorem w_M_ring_75 (C : Cx g p s m args meth c A 4 cX12_ring yX12_ring.cls) (hr : meth.sig.returnType = (some .int))  {res : Int32 × CS}  (x1 : Int32) (x2 : Int32) {k118 : Int32 → Int32 → CS → Option (Int32 × CS)} (hk118 : ∀ (x1 : Int32) (x2 : Int32) (σ : CS), k118 x1 x2 σ = some res → NMI g p l e s m args below meth c A 4 97 4 am Rr res σ [(0, .ref (am 112)), (1, .int x1), (2, .int x2)] 118 []) : ∀ (n : Nat) (x3 : Int32) (σ : CS), L_M_ring_75 k118 x1 x2 n x3 σ = some res → NMI g p l e s m args below meth c A 4 97 4 am Rr res σ [(0, .ref (am 112)), (1, .int x1), (2, .int x2), (3, .int x3)] 75 [] := by
  intro n
  induction n with
  | zero =>
    intro x3 σ h
    exact absurd (show (none : Option (Int32 × CS)) = some res from h) (by intro h9; cases h9)
  | succ n ih =>
    intro x3 σ h
    rw [L_M_ring_75] at h
    refine nw_iload_n C dX12_ring_75 rfl 3 rfl ?_
    refine nw_iload_n C dX12_ring_76 rfl 2 rfl ?_
    refine nw_icmp_ge (tgt := 118) C dX12_ring_77 (by decide) h (fun _ h => ?_) (fun _ h => ?_)
    · exact nw_lv (lv' := [(0, .ref (am 112)), (1, .int x1), (2, .int x2)]) [0, 1, 2] rfl (hk118 x1 x2 _ h)
    · refine nw_aload_n C dX12_ring_80 rfl 0 rfl ?_
      refine nw_get (v := .ref (am 8)) C in_X12 0 ml_O rfl 8 (by decide) tw_1581 rfl mf_8 dX12_ring_81 ?_
      refine nw_iload_n C dX12_ring_84 rfl 3 rfl ?_
      refine nw_aload_n C dX12_ring_85 rfl 0 rfl ?_
      refine nw_get (v := .ref (am 6)) C in_X12 0 ml_O rfl 6 (by decide) tw_1579 rfl mf_6 dX12_ring_86 ?_
      refine nw_iload_n C dX12_ring_89 rfl 3 rfl ?_
      refine nw_bald C 4 ml_6 dX12_ring_90 h (fun h => ?_)
      refine nw_sipush (v := 255) C dX12_ring_91 (by decide) ?_
      refine nw_iand C dX12_ring_94 ?_
      refine nw_iast C 5 ml_8 dX12_ring_95 h ms_8 (fun h => ?_)
      refine nw_aload_n C dX12_ring_96 rfl 0 rfl ?_
      refine nw_get (v := .ref (am 8)) C in_X12 0 ml_O rfl 8 (by decide) tw_1581 rfl mf_8 dX12_ring_97 ?_
      refine nw_iload_n C dX12_ring_100 rfl 3 rfl ?_
      refine nw_iald C 5 ml_8 dX12_ring_101 h (fun h => ?_)
      refine nw_st (st' := [.int (rd (wr σ 8 x3 ((rd σ 6 x3) &&& 255)) 8 x3)]) rfl ?_
      refine nw_aload_n C dX12_ring_102 rfl 0 rfl ?_
      refine nw_get (v := .int (σ.1 2)) C in_X12 0 ml_O rfl 2 (by decide) tw_1575 rfl rfl dX12_ring_103 ?_
      refine nw_icmp_lt (tgt := 112) C dX12_ring_106 (by decide) h (fun _ h => ?_) (fun _ h => ?_)
      · refine nw_iinc (lv' := [(3, .int (x3 + 1)), (0, .ref (am 112)), (1, .int x1), (2, .int x2)]) C (x3 + 1) dX12_ring_112 3 rfl rfl (by decide) rfl ?_
        refine nw_goto (tgt := 75) C dX12_ring_115 (by decide) ?_
        exact nw_lv (lv' := [(0, .ref (am 112)), (1, .int x1), (2, .int x2), (3, .int (x3 + 1))]) [1, 2, 3, 0] rfl (ih (x3 + 1) _ h)
      · refine nw_bipush (v := (-3)) C dX12_ring_109 (by decide) ?_
        exact nm_iret C hr dX12_ring_111 h
def L_M_ring_130 (k161 : Int32 → Int32 → CS → Option (Int32 × CS)) (x1 : Int32) (x2 : Int32) : Nat → Int32 → CS → Option (Int32 × CS)
  | 0, _, _ => none
  | n + 1, x3, σ => if x2 ≤ x3 then k161 x1 x2 σ else gix x3 10 (gix ((10 * (σ.1 10)) + x3) 120 ((L_M_ring_130 k161 x1 x2 n) (x3 + 1) (wr σ 12 ((10 * (σ.1 10)) + x3) (rd σ 8 x3))))
set_option maxHeartbeats 4000000 in
set_option maxRecDepth 100000 in
theorem w_M_ring_130 (C : Cx g p s m args meth c A 4 cX12_ring yX12_ring.cls) (hr : meth.sig.returnType = (some .int))  {res : Int32 × CS}  (x1 : Int32) (x2 : Int32) {k161 : Int32 → Int32 → CS → Option (Int32 × CS)} (hk161 : ∀ (x1 : Int32) (x2 : Int32) (σ : CS), k161 x1 x2 σ = some res → NMI g p l e s m args below meth c A 4 97 4 am Rr res σ [(0, .ref (am 112)), (1, .int x1), (2, .int x2)] 161 []) : ∀ (n : Nat) (x3 : Int32) (σ : CS), L_M_ring_130 k161 x1 x2 n x3 σ = some res → NMI g p l e s m args below meth c A 4 97 4 am Rr res σ [(0, .ref (am 112)), (1, .int x1), (2, .int x2), (3, .int x3)] 130 [] := by
  intro n
  induction n with
  | zero =>
    intro x3 σ h
    exact absurd (show (none : Option (Int32 × CS)) = some res from h) (by intro h9; cases h9)
  | succ n ih =>
    intro x3 σ h
    rw [L_M_ring_130] at h
    refine nw_iload_n C dX12_ring_130 rfl 3 rfl ?_
    refine nw_iload_n C dX12_ring_131 rfl 2 rfl ?_
    refine nw_icmp_ge (tgt := 161) C dX12_ring_132 (by decide) h (fun _ h => ?_) (fun _ h => ?_)
    · exact nw_lv (lv' := [(0, .ref (am 112)), (1, .int x1), (2, .int x2)]) [0, 1, 2] rfl (hk161 x1 x2 _ h)
    · refine nw_aload_n C dX12_ring_135 rfl 0 rfl ?_
      refine nw_get (v := .ref (am 12)) C in_X12 0 ml_O rfl 12 (by decide) tw_1585 rfl mf_12 dX12_ring_136 ?_
      refine nw_bipush (v := 10) C dX12_ring_139 (by decide) ?_
      refine nw_aload_n C dX12_ring_141 rfl 0 rfl ?_
      refine nw_get (v := .int (σ.1 10)) C in_X12 0 ml_O rfl 10 (by decide) tw_1583 rfl mf_10 dX12_ring_142 ?_
      refine nw_imul C dX12_ring_145 ?_
      refine nw_iload_n C dX12_ring_146 rfl 3 rfl ?_
      refine nw_iadd C dX12_ring_147 ?_
      refine nw_aload_n C dX12_ring_148 rfl 0 rfl ?_
      refine nw_get (v := .ref (am 8)) C in_X12 0 ml_O rfl 8 (by decide) tw_1581 rfl mf_8 dX12_ring_149 ?_
      refine nw_iload_n C dX12_ring_152 rfl 3 rfl ?_
      refine nw_iald C 5 ml_8 dX12_ring_153 h (fun h => ?_)
      refine nw_iast C 6 ml_12 dX12_ring_154 h ms_12 (fun h => ?_)
      refine nw_iinc (lv' := [(3, .int (x3 + 1)), (0, .ref (am 112)), (1, .int x1), (2, .int x2)]) C (x3 + 1) dX12_ring_155 3 rfl rfl (by decide) rfl ?_
      refine nw_goto (tgt := 130) C dX12_ring_158 (by decide) ?_
      exact nw_lv (lv' := [(0, .ref (am 112)), (1, .int x1), (2, .int x2), (3, .int (x3 + 1))]) [1, 2, 3, 0] rfl (ih (x3 + 1) _ h)
def B_M_ring_161   (x1 : Int32) (x2 : Int32) (σ : CS) : Option (Int32 × CS) := gix (σ.1 10) 12 (gix (σ.1 10) 12 (gix (σ.1 10) 12 (some ((((σ.1 10) + 1) - 1), (sF (wr (wr (wr σ 13 (σ.1 10) x2) 14 (σ.1 10) x1) 15 (σ.1 10) (-1)) 10 ((σ.1 10) + 1))))))
set_option maxHeartbeats 4000000 in
set_option maxRecDepth 100000 in
theorem w_M_ring_161 (C : Cx g p s m args meth c A 4 cX12_ring yX12_ring.cls) (hr : meth.sig.returnType = (some .int))  {res : Int32 × CS}   (x1 : Int32) (x2 : Int32)  (σ : CS) (h : B_M_ring_161 x1 x2 σ = some res) : NMI g p l e s m args below meth c A 4 97 4 am Rr res σ [(0, .ref (am 112)), (1, .int x1), (2, .int x2)] 161 [] := by
  unfold B_M_ring_161 at h
  refine nw_aload_n C dX12_ring_161 rfl 0 rfl ?_
  refine nw_get (v := .ref (am 13)) C in_X12 0 ml_O rfl 13 (by decide) tw_1586 rfl mf_13 dX12_ring_162 ?_
  refine nw_aload_n C dX12_ring_165 rfl 0 rfl ?_
  refine nw_get (v := .int (σ.1 10)) C in_X12 0 ml_O rfl 10 (by decide) tw_1583 rfl mf_10 dX12_ring_166 ?_
  refine nw_iload_n C dX12_ring_169 rfl 2 rfl ?_
  refine nw_iast C 7 ml_13 dX12_ring_170 h ms_13 (fun h => ?_)
  refine nw_aload_n C dX12_ring_171 rfl 0 rfl ?_
  refine nw_get (v := .ref (am 14)) C in_X12 0 ml_O rfl 14 (by decide) tw_1587 rfl mf_14 dX12_ring_172 ?_
  refine nw_aload_n C dX12_ring_175 rfl 0 rfl ?_
  refine nw_get (v := .int (σ.1 10)) C in_X12 0 ml_O rfl 10 (by decide) tw_1583 rfl rfl dX12_ring_176 ?_
  refine nw_iload_n C dX12_ring_179 rfl 1 rfl ?_
  refine nw_iast C 8 ml_14 dX12_ring_180 h ms_14 (fun h => ?_)
  refine nw_aload_n C dX12_ring_181 rfl 0 rfl ?_
  refine nw_get (v := .ref (am 15)) C in_X12 0 ml_O rfl 15 (by decide) tw_1588 rfl mf_15 dX12_ring_182 ?_
  refine nw_aload_n C dX12_ring_185 rfl 0 rfl ?_
  refine nw_get (v := .int (σ.1 10)) C in_X12 0 ml_O rfl 10 (by decide) tw_1583 rfl rfl dX12_ring_186 ?_
  refine nw_iconst (v := (-1)) C dX12_ring_189 (by decide) ?_
  refine nw_iast C 9 ml_15 dX12_ring_190 h ms_15 (fun h => ?_)
  refine nw_aload_n C dX12_ring_191 rfl 0 rfl ?_
  refine nw_dup C dX12_ring_192 rfl ?_
  refine nw_get (v := .int (σ.1 10)) C in_X12 0 ml_O rfl 10 (by decide) tw_1583 rfl rfl dX12_ring_193 ?_
  refine nw_iconst (v := 1) C dX12_ring_196 (by decide) ?_
  refine nw_iadd C dX12_ring_197 ?_
  refine nw_put (ty := .int) C in_X12 0 ml_O rfl 10 (by decide) tyX12 tyX12_ok nmX12 tw_1583 rfl rfl (by decide +kernel) rfl rfl (Nat.le_of_ble_eq_true rfl) dX12_ring_198 ms_10 ?_
  refine nw_aload_n C dX12_ring_201 rfl 0 rfl ?_
  refine nw_get (v := .int ((σ.1 10) + 1)) C in_X12 0 ml_O rfl 10 (by decide) tw_1583 rfl rfl dX12_ring_202 ?_
  refine nw_iconst (v := 1) C dX12_ring_205 (by decide) ?_
  refine nw_isub C dX12_ring_206 ?_
  exact nm_iret C hr dX12_ring_207 h
def B_M_ring_118   (x1 : Int32) (x2 : Int32) (σ : CS) : Option (Int32 × CS) := bnd (f_M_isSimple σ) (fun r119 σ119 => if r119 = 0 then some ((-4), σ119) else L_M_ring_130 (B_M_ring_161) x1 x2 FU 0 σ119)
set_option maxHeartbeats 4000000 in
set_option maxRecDepth 100000 in
theorem w_M_ring_118 (C : Cx g p s m args meth c A 4 cX12_ring yX12_ring.cls) (hr : meth.sig.returnType = (some .int))  {res : Int32 × CS}   (x1 : Int32) (x2 : Int32)  (σ : CS) (h : B_M_ring_118 x1 x2 σ = some res) : NMI g p l e s m args below meth c A 4 97 4 am Rr res σ [(0, .ref (am 112)), (1, .int x1), (2, .int x2)] 118 [] := by
  unfold B_M_ring_118 at h
  refine nw_aload_n C dX12_ring_118 rfl 0 rfl ?_
  refine nm_callVI (q0 := 0) (As := []) (rest := []) C h (fun _ _ e => c_M_isSimple e) tw_1940 kv_X12_isSimple ml_O rfl ⟨Nat.le_of_ble_eq_true rfl, Nat.le_of_ble_eq_true rfl⟩ rfl dX12_ring_119 rfl (Nat.le_of_ble_eq_true rfl) (fun r119 σ119 h => ?_)
  refine nw_if_ne (tgt := 128) C dX12_ring_122 (by decide) h (fun _ h => ?_) (fun _ h => ?_)
  · refine nw_bipush (v := (-4)) C dX12_ring_125 (by decide) ?_
    exact nm_iret C hr dX12_ring_127 h
  · refine nw_iconst (v := 0) C dX12_ring_128 (by decide) ?_
    refine nw_istore_n (lv' := [(3, .int 0), (0, .ref (am 112)), (1, .int x1), (2, .int x2)]) C dX12_ring_129 rfl (by decide) rfl ?_
    exact nw_lv (lv' := [(0, .ref (am 112)), (1, .int x1), (2, .int x2), (3, .int 0)]) [1, 2, 3, 0] rfl (w_M_ring_130 C hr x1 x2 (fun x1_ x2_ σ_ h_ => w_M_ring_161 C hr x1_ x2_ σ_ h_) FU 0 _ h)
def B_M_ring_30   (x1 : Int32) (x2 : Int32) (z1 : Int32) (σ : CS) : Option (Int32 × CS) := bnd (f_M_bad z1 1 σ) (fun r31 σ31 => if r31 = 0 then if (σ31.1 10) = 12 then some ((-1), (sF σ31 7 0)) else bnd (f_M_in x2 3 10 (sF σ31 7 0)) (fun r59 σ59 => if r59 = 0 then some ((-2), σ59) else L_M_ring_75 (B_M_ring_118) x1 x2 FU 0 (sF σ59 9 x2)) else some (0, σ31))
set_option maxHeartbeats 4000000 in
set_option maxRecDepth 100000 in
theorem w_M_ring_30 (C : Cx g p s m args meth c A 4 cX12_ring yX12_ring.cls) (hr : meth.sig.returnType = (some .int))  {res : Int32 × CS}   (x1 : Int32) (x2 : Int32) (z1 : Int32)  (σ : CS) (h : B_M_ring_30 x1 x2 z1 σ = some res) : NMI g p l e s m args below meth c A 4 97 4 am Rr res σ [(0, .ref (am 112)), (1, .int x1), (2, .int x2)] 30 [.int z1, .ref (am 112)] := by
  unfold B_M_ring_30 at h
  refine nw_iconst (v := 1) C dX12_ring_30 (by decide) ?_
  refine nm_callVI (q0 := 0) (As := [.int z1, .int 1]) (rest := []) C h (fun _ _ e => c_M_bad e) tw_1924 kv_X12_bad ml_O rfl ⟨Nat.le_of_ble_eq_true rfl, Nat.le_of_ble_eq_true rfl⟩ rfl dX12_ring_31 rfl (Nat.le_of_ble_eq_true rfl) (fun r31 σ31 h => ?_)
  refine nw_if_eq (tgt := 39) C dX12_ring_34 (by decide) h (fun _ h => ?_) (fun _ h => ?_)
  · refine nw_aload_n C dX12_ring_39 rfl 0 rfl ?_
    refine nw_iconst (v := 0) C dX12_ring_40 (by decide) ?_
    refine nw_put (ty := .int) C in_X12 0 ml_O rfl 7 (by decide) tyX12 tyX12_ok nmX12 tw_1580 rfl rfl (by decide +kernel) rfl rfl (Nat.le_of_ble_eq_true rfl) dX12_ring_41 ms_7 ?_
    refine nw_aload_n C dX12_ring_44 rfl 0 rfl ?_
    refine nw_get (v := .int (σ31.1 10)) C in_X12 0 ml_O rfl 10 (by decide) tw_1583 rfl rfl dX12_ring_45 ?_
    refine nw_bipush (v := 12) C dX12_ring_48 (by decide) ?_
    refine nw_icmp_ne (tgt := 55) C dX12_ring_50 (by decide) h (fun _ h => ?_) (fun _ h => ?_)
    · refine nw_iconst (v := (-1)) C dX12_ring_53 (by decide) ?_
      exact nm_iret C hr dX12_ring_54 h
    · refine nw_iload_n C dX12_ring_55 rfl 2 rfl ?_
      refine nw_iconst (v := 3) C dX12_ring_56 (by decide) ?_
      refine nw_bipush (v := 10) C dX12_ring_57 (by decide) ?_
      refine nm_callSI  (As := [.int x2, .int 3, .int 10]) (rest := []) C h (fun _ _ e => c_M_in e) tw_1918 ks_X12_in ⟨Nat.le_of_ble_eq_true rfl, Nat.le_of_ble_eq_true rfl⟩ rfl dX12_ring_59 rfl (Nat.le_of_ble_eq_true rfl) (fun r59 σ59 h => ?_)
      refine nw_if_ne (tgt := 68) C dX12_ring_62 (by decide) h (fun _ h => ?_) (fun _ h => ?_)
      · refine nw_bipush (v := (-2)) C dX12_ring_65 (by decide) ?_
        exact nm_iret C hr dX12_ring_67 h
      · refine nw_aload_n C dX12_ring_68 rfl 0 rfl ?_
        refine nw_iload_n C dX12_ring_69 rfl 2 rfl ?_
        refine nw_put (ty := .int) C in_X12 0 ml_O rfl 9 (by decide) tyX12 tyX12_ok nmX12 tw_1582 rfl rfl (by decide +kernel) rfl rfl (Nat.le_of_ble_eq_true rfl) dX12_ring_70 ms_9 ?_
        refine nw_iconst (v := 0) C dX12_ring_73 (by decide) ?_
        refine nw_istore_n (lv' := [(3, .int 0), (0, .ref (am 112)), (1, .int x1), (2, .int x2)]) C dX12_ring_74 rfl (by decide) rfl ?_
        exact nw_lv (lv' := [(0, .ref (am 112)), (1, .int x1), (2, .int x2), (3, .int 0)]) [1, 2, 3, 0] rfl (w_M_ring_75 C hr x1 x2 (fun x1_ x2_ σ_ h_ => w_M_ring_118 C hr x1_ x2_ σ_ h_) FU 0 _ h)
  · refine nw_iconst (v := 0) C dX12_ring_37 (by decide) ?_
    exact nm_iret C hr dX12_ring_38 h
def f_M_ring (p0 : Int32) (p1 : Int32) (σ : CS) : Option (Int32 × CS) := bnd (f_M_isDay p0 (sF σ 0 0)) (fun r7 σ7 => if r7 = 0 then B_M_ring_30 p0 p1 1 σ7 else if p1 < 0 then B_M_ring_30 p0 p1 1 σ7 else if p1 ≤ (σ7.1 7) then B_M_ring_30 p0 p1 0 σ7 else B_M_ring_30 p0 p1 1 σ7)
set_option maxHeartbeats 4000000 in
set_option maxRecDepth 100000 in
theorem c_M_ring {l : Launch} {g : EG} {am : Nat → Nat} {Rr : va_W} {σ σ' : CS} {r : Int32} {p0 : Int32} {p1 : Int32}  (h : f_M_ring p0 p1 σ = some (r, σ')) : CmI l g yX12_ring (.code yX12_ring cX12_ring 4 (some .int)) 4 97 am Rr σ [.ref (am 112), .int p0, .int p1] r σ' := by
  refine Ct.of rfl (by decide) (Nat.le_of_ble_eq_true rfl) ?_
  intro p e s m args below meth c A C hr
  show NMI g p l e s m args below meth c A 4 97 4 am Rr (r, σ') σ [(0, .ref (am 112)), (1, .int p0), (2, .int p1)] 0 []
  unfold f_M_ring at h
  refine nw_aload_n C dX12_ring_0 rfl 0 rfl ?_
  refine nw_iconst (v := 0) C dX12_ring_1 (by decide) ?_
  refine nw_put (ty := .int) C in_X12 0 ml_O rfl 0 (by decide) tyX12 tyX12_ok nmX12 tw_1573 rfl rfl (by decide +kernel) rfl rfl (Nat.le_of_ble_eq_true rfl) dX12_ring_2 ms_0 ?_
  refine nw_aload_n C dX12_ring_5 rfl 0 rfl ?_
  refine nw_iload_n C dX12_ring_6 rfl 1 rfl ?_
  refine nm_callSI  (As := [.int p0]) (rest := [.ref (am 112)]) C h (fun _ _ e => c_M_isDay e) tw_1936 ks_X12_isDay ⟨Nat.le_of_ble_eq_true rfl, Nat.le_of_ble_eq_true rfl⟩ rfl dX12_ring_7 rfl (Nat.le_of_ble_eq_true rfl) (fun r7 σ7 h => ?_)
  refine nw_if_eq (tgt := 25) C dX12_ring_10 (by decide) h (fun _ h => ?_) (fun _ h => ?_)
  · refine nw_iconst (v := 1) C dX12_ring_25 (by decide) ?_
    refine nw_goto (tgt := 30) C dX12_ring_26 (by decide) ?_
    exact nw_lv (lv' := [(0, .ref (am 112)), (1, .int p0), (2, .int p1)]) [0, 1, 2] rfl (w_M_ring_30 C hr p0 p1 1 _ h)
  · refine nw_iload_n C dX12_ring_13 rfl 2 rfl ?_
    refine nw_if_lt (tgt := 25) C dX12_ring_14 (by decide) h (fun _ h => ?_) (fun _ h => ?_)
    · refine nw_iconst (v := 1) C dX12_ring_25 (by decide) ?_
      refine nw_goto (tgt := 30) C dX12_ring_26 (by decide) ?_
      exact nw_lv (lv' := [(0, .ref (am 112)), (1, .int p0), (2, .int p1)]) [0, 1, 2] rfl (w_M_ring_30 C hr p0 p1 1 _ h)
    · refine nw_iload_n C dX12_ring_17 rfl 2 rfl ?_
      refine nw_aload_n C dX12_ring_18 rfl 0 rfl ?_
      refine nw_get (v := .int (σ7.1 7)) C in_X12 0 ml_O rfl 7 (by decide) tw_1580 rfl mf_7 dX12_ring_19 ?_
      refine nw_icmp_le (tgt := 29) C dX12_ring_22 (by decide) h (fun _ h => ?_) (fun _ h => ?_)
      · refine nw_iconst (v := 0) C dX12_ring_29 (by decide) ?_
        exact nw_lv (lv' := [(0, .ref (am 112)), (1, .int p0), (2, .int p1)]) [0, 1, 2] rfl (w_M_ring_30 C hr p0 p1 0 _ h)
      · refine nw_iconst (v := 1) C dX12_ring_25 (by decide) ?_
        refine nw_goto (tgt := 30) C dX12_ring_26 (by decide) ?_
        exact nw_lv (lv' := [(0, .ref (am 112)), (1, .int p0), (2, .int p1)]) [0, 1, 2] rfl (w_M_ring_30 C hr p0 p1 1 _ h)
theorem dX12_unring_0 : decode cX12_unring 0 = .ok (.aload_n 0, 1) := by decide +kernel
theorem dX12_unring_1 : decode cX12_unring 1 = .ok (.iconst 0, 1) := by decide +kernel
theorem dX12_unring_2 : decode cX12_unring 2 = .ok (.putfield 253, 3) := by decide +kernel
theorem dX12_unring_5 : decode cX12_unring 5 = .ok (.aload_n 0, 1) := by decide +kernel
theorem dX12_unring_6 : decode cX12_unring 6 = .ok (.iload_n 1, 1) := by decide +kernel
theorem dX12_unring_7 : decode cX12_unring 7 = .ok (.iconst 0, 1) := by decide +kernel
theorem dX12_unring_8 : decode cX12_unring 8 = .ok (.aload_n 0, 1) := by decide +kernel
theorem dX12_unring_9 : decode cX12_unring 9 = .ok (.getfield 302, 3) := by decide +kernel
theorem dX12_unring_12 : decode cX12_unring 12 = .ok (.iconst 1, 1) := by decide +kernel
theorem dX12_unring_13 : decode cX12_unring 13 = .ok (.isub, 1) := by decide +kernel
theorem dX12_unring_14 : decode cX12_unring 14 = .ok (.invokestatic 257, 3) := by decide +kernel
theorem dX12_unring_17 : decode cX12_unring 17 = .ok (.ifCond .ne 7, 3) := by decide +kernel
theorem dX12_unring_20 : decode cX12_unring 20 = .ok (.iconst 1, 1) := by decide +kernel
theorem dX12_unring_21 : decode cX12_unring 21 = .ok (.goto 4, 3) := by decide +kernel
theorem dX12_unring_24 : decode cX12_unring 24 = .ok (.iconst 0, 1) := by decide +kernel
theorem dX12_unring_25 : decode cX12_unring 25 = .ok (.iconst 1, 1) := by decide +kernel
theorem dX12_unring_26 : decode cX12_unring 26 = .ok (.invokevirtual 265, 3) := by decide +kernel
theorem dX12_unring_29 : decode cX12_unring 29 = .ok (.ifCond .ne 28, 3) := by decide +kernel
theorem dX12_unring_32 : decode cX12_unring 32 = .ok (.aload_n 0, 1) := by decide +kernel
theorem dX12_unring_33 : decode cX12_unring 33 = .ok (.iload_n 2, 1) := by decide +kernel
theorem dX12_unring_34 : decode cX12_unring 34 = .ok (.iconst (-1), 1) := by decide +kernel
theorem dX12_unring_35 : decode cX12_unring 35 = .ok (.if_icmp .eq 14, 3) := by decide +kernel
theorem dX12_unring_38 : decode cX12_unring 38 = .ok (.iload_n 2, 1) := by decide +kernel
theorem dX12_unring_39 : decode cX12_unring 39 = .ok (.invokestatic 298, 3) := by decide +kernel
theorem dX12_unring_42 : decode cX12_unring 42 = .ok (.ifCond .ne 7, 3) := by decide +kernel
theorem dX12_unring_45 : decode cX12_unring 45 = .ok (.iconst 1, 1) := by decide +kernel
theorem dX12_unring_46 : decode cX12_unring 46 = .ok (.goto 4, 3) := by decide +kernel
theorem dX12_unring_49 : decode cX12_unring 49 = .ok (.iconst 0, 1) := by decide +kernel
theorem dX12_unring_50 : decode cX12_unring 50 = .ok (.iconst 2, 1) := by decide +kernel
theorem dX12_unring_51 : decode cX12_unring 51 = .ok (.invokevirtual 265, 3) := by decide +kernel
theorem dX12_unring_54 : decode cX12_unring 54 = .ok (.ifCond .eq 5, 3) := by decide +kernel
theorem dX12_unring_57 : decode cX12_unring 57 = .ok (.iconst 0, 1) := by decide +kernel
theorem dX12_unring_58 : decode cX12_unring 58 = .ok (.ireturn, 1) := by decide +kernel
theorem dX12_unring_59 : decode cX12_unring 59 = .ok (.aload_n 0, 1) := by decide +kernel
theorem dX12_unring_60 : decode cX12_unring 60 = .ok (.getfield 35, 3) := by decide +kernel
theorem dX12_unring_63 : decode cX12_unring 63 = .ok (.iload_n 1, 1) := by decide +kernel
theorem dX12_unring_64 : decode cX12_unring 64 = .ok (.iaload, 1) := by decide +kernel
theorem dX12_unring_65 : decode cX12_unring 65 = .ok (.istore_n 3, 1) := by decide +kernel
theorem dX12_unring_66 : decode cX12_unring 66 = .ok (.aload_n 0, 1) := by decide +kernel
theorem dX12_unring_67 : decode cX12_unring 67 = .ok (.getfield 35, 3) := by decide +kernel
theorem dX12_unring_70 : decode cX12_unring 70 = .ok (.iload_n 1, 1) := by decide +kernel
theorem dX12_unring_71 : decode cX12_unring 71 = .ok (.iload_n 2, 1) := by decide +kernel
theorem dX12_unring_72 : decode cX12_unring 72 = .ok (.iastore, 1) := by decide +kernel
theorem dX12_unring_73 : decode cX12_unring 73 = .ok (.iload_n 3, 1) := by decide +kernel
theorem dX12_unring_74 : decode cX12_unring 74 = .ok (.ireturn, 1) := by decide +kernel
def B_M_unring_50   (x1 : Int32) (x2 : Int32) (z1 : Int32) (σ : CS) : Option (Int32 × CS) := bnd (f_M_bad z1 2 σ) (fun r51 σ51 => if r51 = 0 then gix x1 12 (gix x1 12 (some ((rd σ51 15 x1), (wr σ51 15 x1 x2)))) else some (0, σ51))
set_option maxHeartbeats 4000000 in
set_option maxRecDepth 100000 in
theorem w_M_unring_50 (C : Cx g p s m args meth c A 4 cX12_unring yX12_unring.cls) (hr : meth.sig.returnType = (some .int))  {res : Int32 × CS}   (x1 : Int32) (x2 : Int32) (z1 : Int32)  (σ : CS) (h : B_M_unring_50 x1 x2 z1 σ = some res) : NMI g p l e s m args below meth c A 2 42 4 am Rr res σ [(0, .ref (am 112)), (1, .int x1), (2, .int x2)] 50 [.int z1, .ref (am 112)] := by
  unfold B_M_unring_50 at h
  refine nw_iconst (v := 2) C dX12_unring_50 (by decide) ?_
  refine nm_callVI (q0 := 0) (As := [.int z1, .int 2]) (rest := []) C h (fun _ _ e => c_M_bad e) tw_1924 kv_X12_bad ml_O rfl ⟨Nat.le_of_ble_eq_true rfl, Nat.le_of_ble_eq_true rfl⟩ rfl dX12_unring_51 rfl (Nat.le_of_ble_eq_true rfl) (fun r51 σ51 h => ?_)
  refine nw_if_eq (tgt := 59) C dX12_unring_54 (by decide) h (fun _ h => ?_) (fun _ h => ?_)
  · refine nw_aload_n C dX12_unring_59 rfl 0 rfl ?_
    refine nw_get (v := .ref (am 15)) C in_X12 0 ml_O rfl 15 (by decide) tw_1588 rfl mf_15 dX12_unring_60 ?_
    refine nw_iload_n C dX12_unring_63 rfl 1 rfl ?_
    refine nw_iald C 9 ml_15 dX12_unring_64 h (fun h => ?_)
    refine nw_istore_n (lv' := [(3, .int (rd σ51 15 x1)), (0, .ref (am 112)), (1, .int x1), (2, .int x2)]) C dX12_unring_65 rfl (by decide) rfl ?_
    refine nw_aload_n C dX12_unring_66 rfl 1 rfl ?_
    refine nw_get (v := .ref (am 15)) C in_X12 0 ml_O rfl 15 (by decide) tw_1588 rfl mf_15 dX12_unring_67 ?_
    refine nw_iload_n C dX12_unring_70 rfl 2 rfl ?_
    refine nw_iload_n C dX12_unring_71 rfl 3 rfl ?_
    refine nw_iast C 9 ml_15 dX12_unring_72 h ms_15 (fun h => ?_)
    refine nw_iload_n C dX12_unring_73 rfl 0 rfl ?_
    exact nm_iret C hr dX12_unring_74 h
  · refine nw_iconst (v := 0) C dX12_unring_57 (by decide) ?_
    exact nm_iret C hr dX12_unring_58 h
def B_M_unring_49   (x1 : Int32) (x2 : Int32) (σ : CS) : Option (Int32 × CS) := B_M_unring_50 x1 x2 0 σ
set_option maxHeartbeats 4000000 in
set_option maxRecDepth 100000 in
theorem w_M_unring_49 (C : Cx g p s m args meth c A 4 cX12_unring yX12_unring.cls) (hr : meth.sig.returnType = (some .int))  {res : Int32 × CS}   (x1 : Int32) (x2 : Int32)  (σ : CS) (h : B_M_unring_49 x1 x2 σ = some res) : NMI g p l e s m args below meth c A 2 42 4 am Rr res σ [(0, .ref (am 112)), (1, .int x1), (2, .int x2)] 49 [.ref (am 112)] := by
  unfold B_M_unring_49 at h
  refine nw_iconst (v := 0) C dX12_unring_49 (by decide) ?_
  exact nw_lv (lv' := [(0, .ref (am 112)), (1, .int x1), (2, .int x2)]) [0, 1, 2] rfl (w_M_unring_50 C hr x1 x2 0 _ h)
def B_M_unring_25   (x1 : Int32) (x2 : Int32) (z1 : Int32) (σ : CS) : Option (Int32 × CS) := bnd (f_M_bad z1 1 σ) (fun r26 σ26 => if r26 = 0 then if x2 = (-1) then B_M_unring_49 x1 x2 σ26 else bnd (f_M_isDay x2 σ26) (fun r39 σ39 => if r39 = 0 then B_M_unring_50 x1 x2 1 σ39 else B_M_unring_49 x1 x2 σ39) else some (0, σ26))
set_option maxHeartbeats 4000000 in
set_option maxRecDepth 100000 in
theorem w_M_unring_25 (C : Cx g p s m args meth c A 4 cX12_unring yX12_unring.cls) (hr : meth.sig.returnType = (some .int))  {res : Int32 × CS}   (x1 : Int32) (x2 : Int32) (z1 : Int32)  (σ : CS) (h : B_M_unring_25 x1 x2 z1 σ = some res) : NMI g p l e s m args below meth c A 2 42 4 am Rr res σ [(0, .ref (am 112)), (1, .int x1), (2, .int x2)] 25 [.int z1, .ref (am 112)] := by
  unfold B_M_unring_25 at h
  refine nw_iconst (v := 1) C dX12_unring_25 (by decide) ?_
  refine nm_callVI (q0 := 0) (As := [.int z1, .int 1]) (rest := []) C h (fun _ _ e => c_M_bad e) tw_1924 kv_X12_bad ml_O rfl ⟨Nat.le_of_ble_eq_true rfl, Nat.le_of_ble_eq_true rfl⟩ rfl dX12_unring_26 rfl (Nat.le_of_ble_eq_true rfl) (fun r26 σ26 h => ?_)
  refine nw_if_ne (tgt := 57) C dX12_unring_29 (by decide) h (fun _ h => ?_) (fun _ h => ?_)
  · refine nw_aload_n C dX12_unring_32 rfl 0 rfl ?_
    refine nw_iload_n C dX12_unring_33 rfl 2 rfl ?_
    refine nw_iconst (v := (-1)) C dX12_unring_34 (by decide) ?_
    refine nw_icmp_eq (tgt := 49) C dX12_unring_35 (by decide) h (fun _ h => ?_) (fun _ h => ?_)
    · exact nw_lv (lv' := [(0, .ref (am 112)), (1, .int x1), (2, .int x2)]) [0, 1, 2] rfl (w_M_unring_49 C hr x1 x2 _ h)
    · refine nw_iload_n C dX12_unring_38 rfl 2 rfl ?_
      refine nm_callSI  (As := [.int x2]) (rest := [.ref (am 112)]) C h (fun _ _ e => c_M_isDay e) tw_1936 ks_X12_isDay ⟨Nat.le_of_ble_eq_true rfl, Nat.le_of_ble_eq_true rfl⟩ rfl dX12_unring_39 rfl (Nat.le_of_ble_eq_true rfl) (fun r39 σ39 h => ?_)
      refine nw_if_ne (tgt := 49) C dX12_unring_42 (by decide) h (fun _ h => ?_) (fun _ h => ?_)
      · refine nw_iconst (v := 1) C dX12_unring_45 (by decide) ?_
        refine nw_goto (tgt := 50) C dX12_unring_46 (by decide) ?_
        exact nw_lv (lv' := [(0, .ref (am 112)), (1, .int x1), (2, .int x2)]) [0, 1, 2] rfl (w_M_unring_50 C hr x1 x2 1 _ h)
      · exact nw_lv (lv' := [(0, .ref (am 112)), (1, .int x1), (2, .int x2)]) [0, 1, 2] rfl (w_M_unring_49 C hr x1 x2 _ h)
  · refine nw_iconst (v := 0) C dX12_unring_57 (by decide) ?_
    exact nm_iret C hr dX12_unring_58 h
def f_M_unring (p0 : Int32) (p1 : Int32) (σ : CS) : Option (Int32 × CS) := bnd (f_M_in p0 0 ((σ.1 10) - 1) (sF σ 0 0)) (fun r14 σ14 => if r14 = 0 then B_M_unring_25 p0 p1 1 σ14 else B_M_unring_25 p0 p1 0 σ14)
set_option maxHeartbeats 4000000 in
set_option maxRecDepth 100000 in
theorem c_M_unring {l : Launch} {g : EG} {am : Nat → Nat} {Rr : va_W} {σ σ' : CS} {r : Int32} {p0 : Int32} {p1 : Int32}  (h : f_M_unring p0 p1 σ = some (r, σ')) : CmI l g yX12_unring (.code yX12_unring cX12_unring 4 (some .int)) 2 42 am Rr σ [.ref (am 112), .int p0, .int p1] r σ' := by
  refine Ct.of rfl (by decide) (Nat.le_of_ble_eq_true rfl) ?_
  intro p e s m args below meth c A C hr
  show NMI g p l e s m args below meth c A 2 42 4 am Rr (r, σ') σ [(0, .ref (am 112)), (1, .int p0), (2, .int p1)] 0 []
  unfold f_M_unring at h
  refine nw_aload_n C dX12_unring_0 rfl 0 rfl ?_
  refine nw_iconst (v := 0) C dX12_unring_1 (by decide) ?_
  refine nw_put (ty := .int) C in_X12 0 ml_O rfl 0 (by decide) tyX12 tyX12_ok nmX12 tw_1573 rfl rfl (by decide +kernel) rfl rfl (Nat.le_of_ble_eq_true rfl) dX12_unring_2 ms_0 ?_
  refine nw_aload_n C dX12_unring_5 rfl 0 rfl ?_
  refine nw_iload_n C dX12_unring_6 rfl 1 rfl ?_
  refine nw_iconst (v := 0) C dX12_unring_7 (by decide) ?_
  refine nw_aload_n C dX12_unring_8 rfl 0 rfl ?_
  refine nw_get (v := .int (σ.1 10)) C in_X12 0 ml_O rfl 10 (by decide) tw_1583 rfl rfl dX12_unring_9 ?_
  refine nw_iconst (v := 1) C dX12_unring_12 (by decide) ?_
  refine nw_isub C dX12_unring_13 ?_
  refine nm_callSI  (As := [.int p0, .int 0, .int ((σ.1 10) - 1)]) (rest := [.ref (am 112)]) C h (fun _ _ e => c_M_in e) tw_1918 ks_X12_in ⟨Nat.le_of_ble_eq_true rfl, Nat.le_of_ble_eq_true rfl⟩ rfl dX12_unring_14 rfl (Nat.le_of_ble_eq_true rfl) (fun r14 σ14 h => ?_)
  refine nw_if_ne (tgt := 24) C dX12_unring_17 (by decide) h (fun _ h => ?_) (fun _ h => ?_)
  · refine nw_iconst (v := 1) C dX12_unring_20 (by decide) ?_
    refine nw_goto (tgt := 25) C dX12_unring_21 (by decide) ?_
    exact nw_lv (lv' := [(0, .ref (am 112)), (1, .int p0), (2, .int p1)]) [0, 1, 2] rfl (w_M_unring_25 C hr p0 p1 1 _ h)
  · refine nw_iconst (v := 0) C dX12_unring_24 (by decide) ?_
    exact nw_lv (lv' := [(0, .ref (am 112)), (1, .int p0), (2, .int p1)]) [0, 1, 2] rfl (w_M_unring_25 C hr p0 p1 0 _ h)
end
