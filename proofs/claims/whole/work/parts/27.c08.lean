section
variable {g : EG} {p : Program} {l : Launch} {e : Env} {s : State} {m : MethodId} {args : Array Value} {below : List Frame} {meth : Method} {c : Code} {A : Nat → Prop} {ad am ta : Nat → Nat} {Rr : va_W} {φ0 : Nat}
theorem dX10_takenIn_0 : decode cX10_takenIn 0 = .ok (.iconst 0, 1) := by decide +kernel
theorem dX10_takenIn_1 : decode cX10_takenIn 1 = .ok (.istore 5, 2) := by decide +kernel
theorem dX10_takenIn_3 : decode cX10_takenIn 3 = .ok (.iconst 0, 1) := by decide +kernel
theorem dX10_takenIn_4 : decode cX10_takenIn 4 = .ok (.istore 6, 2) := by decide +kernel
theorem dX10_takenIn_6 : decode cX10_takenIn 6 = .ok (.iload 6, 2) := by decide +kernel
theorem dX10_takenIn_8 : decode cX10_takenIn 8 = .ok (.aload_n 0, 1) := by decide +kernel
theorem dX10_takenIn_9 : decode cX10_takenIn 9 = .ok (.getfield 20, 3) := by decide +kernel
theorem dX10_takenIn_12 : decode cX10_takenIn 12 = .ok (.invokevirtual 35, 3) := by decide +kernel
theorem dX10_takenIn_15 : decode cX10_takenIn 15 = .ok (.if_icmp .ge 81, 3) := by decide +kernel
theorem dX10_takenIn_18 : decode cX10_takenIn 18 = .ok (.aload_n 0, 1) := by decide +kernel
theorem dX10_takenIn_19 : decode cX10_takenIn 19 = .ok (.getfield 20, 3) := by decide +kernel
theorem dX10_takenIn_22 : decode cX10_takenIn 22 = .ok (.iload 6, 2) := by decide +kernel
theorem dX10_takenIn_24 : decode cX10_takenIn 24 = .ok (.iconst 2, 1) := by decide +kernel
theorem dX10_takenIn_25 : decode cX10_takenIn 25 = .ok (.invokevirtual 31, 3) := by decide +kernel
theorem dX10_takenIn_28 : decode cX10_takenIn 28 = .ok (.iload_n 3, 1) := by decide +kernel
theorem dX10_takenIn_29 : decode cX10_takenIn 29 = .ok (.if_icmp .ne 61, 3) := by decide +kernel
theorem dX10_takenIn_32 : decode cX10_takenIn 32 = .ok (.aload_n 0, 1) := by decide +kernel
theorem dX10_takenIn_33 : decode cX10_takenIn 33 = .ok (.getfield 20, 3) := by decide +kernel
theorem dX10_takenIn_36 : decode cX10_takenIn 36 = .ok (.iload 6, 2) := by decide +kernel
theorem dX10_takenIn_38 : decode cX10_takenIn 38 = .ok (.iconst 0, 1) := by decide +kernel
theorem dX10_takenIn_39 : decode cX10_takenIn 39 = .ok (.invokevirtual 31, 3) := by decide +kernel
theorem dX10_takenIn_42 : decode cX10_takenIn 42 = .ok (.iload_n 1, 1) := by decide +kernel
theorem dX10_takenIn_43 : decode cX10_takenIn 43 = .ok (.if_icmp .ne 47, 3) := by decide +kernel
theorem dX10_takenIn_46 : decode cX10_takenIn 46 = .ok (.aload_n 0, 1) := by decide +kernel
theorem dX10_takenIn_47 : decode cX10_takenIn 47 = .ok (.getfield 20, 3) := by decide +kernel
theorem dX10_takenIn_50 : decode cX10_takenIn 50 = .ok (.iload 6, 2) := by decide +kernel
theorem dX10_takenIn_52 : decode cX10_takenIn 52 = .ok (.iconst 1, 1) := by decide +kernel
theorem dX10_takenIn_53 : decode cX10_takenIn 53 = .ok (.invokevirtual 31, 3) := by decide +kernel
theorem dX10_takenIn_56 : decode cX10_takenIn 56 = .ok (.iload_n 2, 1) := by decide +kernel
theorem dX10_takenIn_57 : decode cX10_takenIn 57 = .ok (.if_icmp .ne 33, 3) := by decide +kernel
theorem dX10_takenIn_60 : decode cX10_takenIn 60 = .ok (.aload_n 0, 1) := by decide +kernel
theorem dX10_takenIn_61 : decode cX10_takenIn 61 = .ok (.getfield 20, 3) := by decide +kernel
theorem dX10_takenIn_64 : decode cX10_takenIn 64 = .ok (.iload 6, 2) := by decide +kernel
theorem dX10_takenIn_66 : decode cX10_takenIn 66 = .ok (.iconst 4, 1) := by decide +kernel
theorem dX10_takenIn_67 : decode cX10_takenIn 67 = .ok (.invokevirtual 31, 3) := by decide +kernel
theorem dX10_takenIn_70 : decode cX10_takenIn 70 = .ok (.iload 4, 2) := by decide +kernel
theorem dX10_takenIn_72 : decode cX10_takenIn 72 = .ok (.if_icmp .gt 18, 3) := by decide +kernel
theorem dX10_takenIn_75 : decode cX10_takenIn 75 = .ok (.iload 5, 2) := by decide +kernel
theorem dX10_takenIn_77 : decode cX10_takenIn 77 = .ok (.aload_n 0, 1) := by decide +kernel
theorem dX10_takenIn_78 : decode cX10_takenIn 78 = .ok (.getfield 20, 3) := by decide +kernel
theorem dX10_takenIn_81 : decode cX10_takenIn 81 = .ok (.iload 6, 2) := by decide +kernel
theorem dX10_takenIn_83 : decode cX10_takenIn 83 = .ok (.iconst 3, 1) := by decide +kernel
theorem dX10_takenIn_84 : decode cX10_takenIn 84 = .ok (.invokevirtual 31, 3) := by decide +kernel
theorem dX10_takenIn_87 : decode cX10_takenIn 87 = .ok (.iadd, 1) := by decide +kernel
theorem dX10_takenIn_88 : decode cX10_takenIn 88 = .ok (.istore 5, 2) := by decide +kernel
theorem dX10_takenIn_90 : decode cX10_takenIn 90 = .ok (.iinc 6 1, 3) := by decide +kernel
theorem dX10_takenIn_93 : decode cX10_takenIn 93 = .ok (.goto (-87), 3) := by decide +kernel
theorem dX10_takenIn_96 : decode cX10_takenIn 96 = .ok (.iload 5, 2) := by decide +kernel
theorem dX10_takenIn_98 : decode cX10_takenIn 98 = .ok (.ireturn, 1) := by decide +kernel
def L_Woods_takenIn_6  (x1 : Int32) (x2 : Int32) (x3 : Int32) (x4 : Int32) : Nat → Int32 → Int32 → CS → Option (Int32 × CS)
  | 0, _, _, _ => none
  | n + 1, x5, x6, σ => bnd (f_Table_size 15 σ) (fun r12 σ12 => if r12 ≤ x6 then some (x5, σ12) else bnd (f_Table_get 15 x6 2 σ12) (fun r25 σ25 => if r25 = x3 then bnd (f_Table_get 15 x6 0 σ25) (fun r39 σ39 => if r39 = x1 then bnd (f_Table_get 15 x6 1 σ39) (fun r53 σ53 => if r53 = x2 then bnd (f_Table_get 15 x6 4 σ53) (fun r67 σ67 => if x4 < r67 then (L_Woods_takenIn_6 x1 x2 x3 x4 n) x5 (x6 + 1) σ67 else bnd (f_Table_get 15 x6 3 σ67) (fun r84 σ84 => (L_Woods_takenIn_6 x1 x2 x3 x4 n) (x5 + r84) (x6 + 1) σ84)) else (L_Woods_takenIn_6 x1 x2 x3 x4 n) x5 (x6 + 1) σ53) else (L_Woods_takenIn_6 x1 x2 x3 x4 n) x5 (x6 + 1) σ39) else (L_Woods_takenIn_6 x1 x2 x3 x4 n) x5 (x6 + 1) σ25))
set_option maxHeartbeats 4000000 in
set_option maxRecDepth 100000 in
theorem w_Woods_takenIn_6 (C : Cx g p s m args meth c A 7 cX10_takenIn yX10_takenIn.cls) (hr : meth.sig.returnType = (some .int))  {res : Int32 × CS}  (x1 : Int32) (x2 : Int32) (x3 : Int32) (x4 : Int32)  : ∀ (n : Nat) (x5 : Int32) (x6 : Int32) (σ : CS) (ta : Nat → Nat), φ0 ≤ ph σ.2.2 → ph σ.2.2 ≤ BB → L_Woods_takenIn_6 x1 x2 x3 x4 n x5 x6 σ = some res → NI g p l e s m args below meth c A 1 23 7 ad Rr φ0 res ta σ [(0, .ref (ad 10)), (1, .int x1), (2, .int x2), (3, .int x3), (4, .int x4), (5, .int x5), (6, .int x6)] 6 [] := by
  intro n
  induction n with
  | zero =>
    intro x5 x6 σ ta hφ hφ2 h
    exact absurd (show (none : Option (Int32 × CS)) = some res from h) (by intro h9; cases h9)
  | succ n ih =>
    intro x5 x6 σ ta hφ hφ2 h
    rw [L_Woods_takenIn_6] at h
    refine nw_iload C dX10_takenIn_6 6 rfl ?_
    refine nw_aload_n C dX10_takenIn_8 rfl 0 rfl ?_
    refine nw_get (v := .ref (ad 26)) C in_X10 10 cl_Woods rfl 1 (by decide) tw_503 rfl rfl dX10_takenIn_9 ?_
    refine nc_callVI (q0 := 26) (As := []) (rest := [.int x6]) C h (fun _ _ e => c_Table_size 15 (by decide) e hφ2) tw_1547 kv_X9_size (cl_T 15 (by decide)) rfl ⟨Nat.le_of_ble_eq_true rfl, Nat.le_of_ble_eq_true rfl⟩ rfl dX10_takenIn_12 rfl (Nat.le_of_ble_eq_true rfl) hφ hφ2 (fun r12 σ12 ta h hφ hφ2 => ?_)
    refine nw_icmp_ge (tgt := 96) C dX10_takenIn_15 (by decide) h (fun _ h => ?_) (fun _ h => ?_)
    · refine nw_iload C dX10_takenIn_96 5 rfl ?_
      exact nc_iret C hr dX10_takenIn_98 hφ hφ2 h
    · refine nw_aload_n C dX10_takenIn_18 rfl 0 rfl ?_
      refine nw_get (v := .ref (ad 26)) C in_X10 10 cl_Woods rfl 1 (by decide) tw_503 rfl rfl dX10_takenIn_19 ?_
      refine nw_iload C dX10_takenIn_22 6 rfl ?_
      refine nw_iconst (v := 2) C dX10_takenIn_24 (by decide) ?_
      refine nc_callVI (q0 := 26) (As := [.int x6, .int 2]) (rest := []) C h (fun _ _ e => c_Table_get 15 (by decide) e hφ2) tw_1542 kv_X9_get (cl_T 15 (by decide)) rfl ⟨Nat.le_of_ble_eq_true rfl, Nat.le_of_ble_eq_true rfl⟩ rfl dX10_takenIn_25 rfl (Nat.le_of_ble_eq_true rfl) hφ hφ2 (fun r25 σ25 ta h hφ hφ2 => ?_)
      refine nw_iload_n C dX10_takenIn_28 rfl 3 rfl ?_
      refine nw_icmp_ne (tgt := 90) C dX10_takenIn_29 (by decide) h (fun _ h => ?_) (fun _ h => ?_)
      · refine nw_aload_n C dX10_takenIn_32 rfl 0 rfl ?_
        refine nw_get (v := .ref (ad 26)) C in_X10 10 cl_Woods rfl 1 (by decide) tw_503 rfl rfl dX10_takenIn_33 ?_
        refine nw_iload C dX10_takenIn_36 6 rfl ?_
        refine nw_iconst (v := 0) C dX10_takenIn_38 (by decide) ?_
        refine nc_callVI (q0 := 26) (As := [.int x6, .int 0]) (rest := []) C h (fun _ _ e => c_Table_get 15 (by decide) e hφ2) tw_1542 kv_X9_get (cl_T 15 (by decide)) rfl ⟨Nat.le_of_ble_eq_true rfl, Nat.le_of_ble_eq_true rfl⟩ rfl dX10_takenIn_39 rfl (Nat.le_of_ble_eq_true rfl) hφ hφ2 (fun r39 σ39 ta h hφ hφ2 => ?_)
        refine nw_iload_n C dX10_takenIn_42 rfl 1 rfl ?_
        refine nw_icmp_ne (tgt := 90) C dX10_takenIn_43 (by decide) h (fun _ h => ?_) (fun _ h => ?_)
        · refine nw_aload_n C dX10_takenIn_46 rfl 0 rfl ?_
          refine nw_get (v := .ref (ad 26)) C in_X10 10 cl_Woods rfl 1 (by decide) tw_503 rfl rfl dX10_takenIn_47 ?_
          refine nw_iload C dX10_takenIn_50 6 rfl ?_
          refine nw_iconst (v := 1) C dX10_takenIn_52 (by decide) ?_
          refine nc_callVI (q0 := 26) (As := [.int x6, .int 1]) (rest := []) C h (fun _ _ e => c_Table_get 15 (by decide) e hφ2) tw_1542 kv_X9_get (cl_T 15 (by decide)) rfl ⟨Nat.le_of_ble_eq_true rfl, Nat.le_of_ble_eq_true rfl⟩ rfl dX10_takenIn_53 rfl (Nat.le_of_ble_eq_true rfl) hφ hφ2 (fun r53 σ53 ta h hφ hφ2 => ?_)
          refine nw_iload_n C dX10_takenIn_56 rfl 2 rfl ?_
          refine nw_icmp_ne (tgt := 90) C dX10_takenIn_57 (by decide) h (fun _ h => ?_) (fun _ h => ?_)
          · refine nw_aload_n C dX10_takenIn_60 rfl 0 rfl ?_
            refine nw_get (v := .ref (ad 26)) C in_X10 10 cl_Woods rfl 1 (by decide) tw_503 rfl rfl dX10_takenIn_61 ?_
            refine nw_iload C dX10_takenIn_64 6 rfl ?_
            refine nw_iconst (v := 4) C dX10_takenIn_66 (by decide) ?_
            refine nc_callVI (q0 := 26) (As := [.int x6, .int 4]) (rest := []) C h (fun _ _ e => c_Table_get 15 (by decide) e hφ2) tw_1542 kv_X9_get (cl_T 15 (by decide)) rfl ⟨Nat.le_of_ble_eq_true rfl, Nat.le_of_ble_eq_true rfl⟩ rfl dX10_takenIn_67 rfl (Nat.le_of_ble_eq_true rfl) hφ hφ2 (fun r67 σ67 ta h hφ hφ2 => ?_)
            refine nw_iload C dX10_takenIn_70 4 rfl ?_
            refine nw_icmp_gt (tgt := 90) C dX10_takenIn_72 (by decide) h (fun _ h => ?_) (fun _ h => ?_)
            · refine nw_iinc (lv' := [(6, .int (x6 + 1)), (0, .ref (ad 10)), (1, .int x1), (2, .int x2), (3, .int x3), (4, .int x4), (5, .int x5)]) C (x6 + 1) dX10_takenIn_90 6 rfl rfl (by decide) rfl ?_
              refine nw_goto (tgt := 6) C dX10_takenIn_93 (by decide) ?_
              exact nw_lv (lv' := [(0, .ref (ad 10)), (1, .int x1), (2, .int x2), (3, .int x3), (4, .int x4), (5, .int x5), (6, .int (x6 + 1))]) [1, 2, 3, 4, 5, 6, 0] rfl (ih x5 (x6 + 1) _ _ hφ hφ2 h)
            · refine nw_iload C dX10_takenIn_75 5 rfl ?_
              refine nw_aload_n C dX10_takenIn_77 rfl 0 rfl ?_
              refine nw_get (v := .ref (ad 26)) C in_X10 10 cl_Woods rfl 1 (by decide) tw_503 rfl rfl dX10_takenIn_78 ?_
              refine nw_iload C dX10_takenIn_81 6 rfl ?_
              refine nw_iconst (v := 3) C dX10_takenIn_83 (by decide) ?_
              refine nc_callVI (q0 := 26) (As := [.int x6, .int 3]) (rest := [.int x5]) C h (fun _ _ e => c_Table_get 15 (by decide) e hφ2) tw_1542 kv_X9_get (cl_T 15 (by decide)) rfl ⟨Nat.le_of_ble_eq_true rfl, Nat.le_of_ble_eq_true rfl⟩ rfl dX10_takenIn_84 rfl (Nat.le_of_ble_eq_true rfl) hφ hφ2 (fun r84 σ84 ta h hφ hφ2 => ?_)
              refine nw_iadd C dX10_takenIn_87 ?_
              refine nw_istore (lv' := [(5, .int (x5 + r84)), (0, .ref (ad 10)), (1, .int x1), (2, .int x2), (3, .int x3), (4, .int x4), (6, .int x6)]) C dX10_takenIn_88 (by decide) rfl ?_
              refine nw_iinc (lv' := [(6, .int (x6 + 1)), (5, .int (x5 + r84)), (0, .ref (ad 10)), (1, .int x1), (2, .int x2), (3, .int x3), (4, .int x4)]) C (x6 + 1) dX10_takenIn_90 6 rfl rfl (by decide) rfl ?_
              refine nw_goto (tgt := 6) C dX10_takenIn_93 (by decide) ?_
              exact nw_lv (lv' := [(0, .ref (ad 10)), (1, .int x1), (2, .int x2), (3, .int x3), (4, .int x4), (5, .int (x5 + r84)), (6, .int (x6 + 1))]) [2, 3, 4, 5, 6, 1, 0] rfl (ih (x5 + r84) (x6 + 1) _ _ hφ hφ2 h)
          · refine nw_iinc (lv' := [(6, .int (x6 + 1)), (0, .ref (ad 10)), (1, .int x1), (2, .int x2), (3, .int x3), (4, .int x4), (5, .int x5)]) C (x6 + 1) dX10_takenIn_90 6 rfl rfl (by decide) rfl ?_
            refine nw_goto (tgt := 6) C dX10_takenIn_93 (by decide) ?_
            exact nw_lv (lv' := [(0, .ref (ad 10)), (1, .int x1), (2, .int x2), (3, .int x3), (4, .int x4), (5, .int x5), (6, .int (x6 + 1))]) [1, 2, 3, 4, 5, 6, 0] rfl (ih x5 (x6 + 1) _ _ hφ hφ2 h)
        · refine nw_iinc (lv' := [(6, .int (x6 + 1)), (0, .ref (ad 10)), (1, .int x1), (2, .int x2), (3, .int x3), (4, .int x4), (5, .int x5)]) C (x6 + 1) dX10_takenIn_90 6 rfl rfl (by decide) rfl ?_
          refine nw_goto (tgt := 6) C dX10_takenIn_93 (by decide) ?_
          exact nw_lv (lv' := [(0, .ref (ad 10)), (1, .int x1), (2, .int x2), (3, .int x3), (4, .int x4), (5, .int x5), (6, .int (x6 + 1))]) [1, 2, 3, 4, 5, 6, 0] rfl (ih x5 (x6 + 1) _ _ hφ hφ2 h)
      · refine nw_iinc (lv' := [(6, .int (x6 + 1)), (0, .ref (ad 10)), (1, .int x1), (2, .int x2), (3, .int x3), (4, .int x4), (5, .int x5)]) C (x6 + 1) dX10_takenIn_90 6 rfl rfl (by decide) rfl ?_
        refine nw_goto (tgt := 6) C dX10_takenIn_93 (by decide) ?_
        exact nw_lv (lv' := [(0, .ref (ad 10)), (1, .int x1), (2, .int x2), (3, .int x3), (4, .int x4), (5, .int x5), (6, .int (x6 + 1))]) [1, 2, 3, 4, 5, 6, 0] rfl (ih x5 (x6 + 1) _ _ hφ hφ2 h)
def f_Woods_takenIn (p0 : Int32) (p1 : Int32) (p2 : Int32) (p3 : Int32) (σ : CS) : Option (Int32 × CS) := L_Woods_takenIn_6 p0 p1 p2 p3 FU 0 0 σ
set_option maxHeartbeats 4000000 in
set_option maxRecDepth 100000 in
theorem c_Woods_takenIn {l : Launch} {g : EG} {ad ta : Nat → Nat} {Rr : va_W} {σ σ' : CS} {r : Int32} {p0 : Int32} {p1 : Int32} {p2 : Int32} {p3 : Int32}  (h : f_Woods_takenIn p0 p1 p2 p3 σ = some (r, σ')) (hφ2 : ph σ.2.2 ≤ BB) : CtI l g yX10_takenIn (.code yX10_takenIn cX10_takenIn 7 (some .int)) 1 23 ad ta Rr σ [.ref (ad 10), .int p0, .int p1, .int p2, .int p3] r σ' := by
  refine Ct.of rfl (by decide) (Nat.le_of_ble_eq_true rfl) ?_
  intro p e s m args below meth c A C hr
  have hφ : ph σ.2.2 ≤ ph σ.2.2 := Nat.le_refl _
  refine nw_zero (ph σ.2.2) ?_
  show NI g p l e s m args below meth c A 1 23 7 ad Rr (ph σ.2.2) (r, σ') ta σ [(0, .ref (ad 10)), (1, .int p0), (2, .int p1), (3, .int p2), (4, .int p3)] 0 []
  unfold f_Woods_takenIn at h
  refine nw_iconst (v := 0) C dX10_takenIn_0 (by decide) ?_
  refine nw_istore (lv' := [(5, .int 0), (0, .ref (ad 10)), (1, .int p0), (2, .int p1), (3, .int p2), (4, .int p3)]) C dX10_takenIn_1 (by decide) rfl ?_
  refine nw_iconst (v := 0) C dX10_takenIn_3 (by decide) ?_
  refine nw_istore (lv' := [(6, .int 0), (5, .int 0), (0, .ref (ad 10)), (1, .int p0), (2, .int p1), (3, .int p2), (4, .int p3)]) C dX10_takenIn_4 (by decide) rfl ?_
  exact nw_lv (lv' := [(0, .ref (ad 10)), (1, .int p0), (2, .int p1), (3, .int p2), (4, .int p3), (5, .int 0), (6, .int 0)]) [2, 3, 4, 5, 6, 1, 0] rfl (w_Woods_takenIn_6 C hr p0 p1 p2 p3 FU 0 0 _ _ hφ hφ2 h)
theorem dX10_stockOf_0 : decode cX10_stockOf 0 = .ok (.aload_n 0, 1) := by decide +kernel
theorem dX10_stockOf_1 : decode cX10_stockOf 1 = .ok (.getfield 14, 3) := by decide +kernel
theorem dX10_stockOf_4 : decode cX10_stockOf 4 = .ok (.iload_n 1, 1) := by decide +kernel
theorem dX10_stockOf_5 : decode cX10_stockOf 5 = .ok (.iconst 1, 1) := by decide +kernel
theorem dX10_stockOf_6 : decode cX10_stockOf 6 = .ok (.invokevirtual 31, 3) := by decide +kernel
theorem dX10_stockOf_9 : decode cX10_stockOf 9 = .ok (.istore 5, 2) := by decide +kernel
theorem dX10_stockOf_11 : decode cX10_stockOf 11 = .ok (.aload_n 0, 1) := by decide +kernel
theorem dX10_stockOf_12 : decode cX10_stockOf 12 = .ok (.getfield 14, 3) := by decide +kernel
theorem dX10_stockOf_15 : decode cX10_stockOf 15 = .ok (.iload_n 1, 1) := by decide +kernel
theorem dX10_stockOf_16 : decode cX10_stockOf 16 = .ok (.iconst 2, 1) := by decide +kernel
theorem dX10_stockOf_17 : decode cX10_stockOf 17 = .ok (.invokevirtual 31, 3) := by decide +kernel
theorem dX10_stockOf_20 : decode cX10_stockOf 20 = .ok (.istore 6, 2) := by decide +kernel
theorem dX10_stockOf_22 : decode cX10_stockOf 22 = .ok (.iload_n 3, 1) := by decide +kernel
theorem dX10_stockOf_23 : decode cX10_stockOf 23 = .ok (.aload_n 0, 1) := by decide +kernel
theorem dX10_stockOf_24 : decode cX10_stockOf 24 = .ok (.iload_n 1, 1) := by decide +kernel
theorem dX10_stockOf_25 : decode cX10_stockOf 25 = .ok (.invokevirtual 38, 3) := by decide +kernel
theorem dX10_stockOf_28 : decode cX10_stockOf 28 = .ok (.if_icmp .ge 5, 3) := by decide +kernel
theorem dX10_stockOf_31 : decode cX10_stockOf 31 = .ok (.iconst (-1), 1) := by decide +kernel
theorem dX10_stockOf_32 : decode cX10_stockOf 32 = .ok (.ireturn, 1) := by decide +kernel
theorem dX10_stockOf_33 : decode cX10_stockOf 33 = .ok (.aload_n 0, 1) := by decide +kernel
theorem dX10_stockOf_34 : decode cX10_stockOf 34 = .ok (.iload_n 1, 1) := by decide +kernel
theorem dX10_stockOf_35 : decode cX10_stockOf 35 = .ok (.invokevirtual 38, 3) := by decide +kernel
theorem dX10_stockOf_38 : decode cX10_stockOf 38 = .ok (.istore 7, 2) := by decide +kernel
theorem dX10_stockOf_40 : decode cX10_stockOf 40 = .ok (.iload 7, 2) := by decide +kernel
theorem dX10_stockOf_42 : decode cX10_stockOf 42 = .ok (.iload_n 3, 1) := by decide +kernel
theorem dX10_stockOf_43 : decode cX10_stockOf 43 = .ok (.if_icmp .gt 81, 3) := by decide +kernel
theorem dX10_stockOf_46 : decode cX10_stockOf 46 = .ok (.iconst 0, 1) := by decide +kernel
theorem dX10_stockOf_47 : decode cX10_stockOf 47 = .ok (.iload 5, 2) := by decide +kernel
theorem dX10_stockOf_49 : decode cX10_stockOf 49 = .ok (.aload_n 0, 1) := by decide +kernel
theorem dX10_stockOf_50 : decode cX10_stockOf 50 = .ok (.iload_n 1, 1) := by decide +kernel
theorem dX10_stockOf_51 : decode cX10_stockOf 51 = .ok (.iconst 0, 1) := by decide +kernel
theorem dX10_stockOf_52 : decode cX10_stockOf 52 = .ok (.iload 7, 2) := by decide +kernel
theorem dX10_stockOf_54 : decode cX10_stockOf 54 = .ok (.iload 4, 2) := by decide +kernel
theorem dX10_stockOf_56 : decode cX10_stockOf 56 = .ok (.invokevirtual 42, 3) := by decide +kernel
theorem dX10_stockOf_59 : decode cX10_stockOf 59 = .ok (.isub, 1) := by decide +kernel
theorem dX10_stockOf_60 : decode cX10_stockOf 60 = .ok (.invokestatic 46, 3) := by decide +kernel
theorem dX10_stockOf_63 : decode cX10_stockOf 63 = .ok (.istore 5, 2) := by decide +kernel
theorem dX10_stockOf_65 : decode cX10_stockOf 65 = .ok (.ldc 51, 2) := by decide +kernel
theorem dX10_stockOf_67 : decode cX10_stockOf 67 = .ok (.iload 5, 2) := by decide +kernel
theorem dX10_stockOf_69 : decode cX10_stockOf 69 = .ok (.iload 5, 2) := by decide +kernel
theorem dX10_stockOf_71 : decode cX10_stockOf 71 = .ok (.bipush 50, 2) := by decide +kernel
theorem dX10_stockOf_73 : decode cX10_stockOf 73 = .ok (.idiv, 1) := by decide +kernel
theorem dX10_stockOf_74 : decode cX10_stockOf 74 = .ok (.iadd, 1) := by decide +kernel
theorem dX10_stockOf_75 : decode cX10_stockOf 75 = .ok (.invokestatic 52, 3) := by decide +kernel
theorem dX10_stockOf_78 : decode cX10_stockOf 78 = .ok (.istore 5, 2) := by decide +kernel
theorem dX10_stockOf_80 : decode cX10_stockOf 80 = .ok (.iconst 0, 1) := by decide +kernel
theorem dX10_stockOf_81 : decode cX10_stockOf 81 = .ok (.iload 6, 2) := by decide +kernel
theorem dX10_stockOf_83 : decode cX10_stockOf 83 = .ok (.aload_n 0, 1) := by decide +kernel
theorem dX10_stockOf_84 : decode cX10_stockOf 84 = .ok (.iload_n 1, 1) := by decide +kernel
theorem dX10_stockOf_85 : decode cX10_stockOf 85 = .ok (.iconst 1, 1) := by decide +kernel
theorem dX10_stockOf_86 : decode cX10_stockOf 86 = .ok (.iload 7, 2) := by decide +kernel
theorem dX10_stockOf_88 : decode cX10_stockOf 88 = .ok (.iload 4, 2) := by decide +kernel
theorem dX10_stockOf_90 : decode cX10_stockOf 90 = .ok (.invokevirtual 42, 3) := by decide +kernel
theorem dX10_stockOf_93 : decode cX10_stockOf 93 = .ok (.isub, 1) := by decide +kernel
theorem dX10_stockOf_94 : decode cX10_stockOf 94 = .ok (.invokestatic 46, 3) := by decide +kernel
theorem dX10_stockOf_97 : decode cX10_stockOf 97 = .ok (.istore 6, 2) := by decide +kernel
theorem dX10_stockOf_99 : decode cX10_stockOf 99 = .ok (.iload 6, 2) := by decide +kernel
theorem dX10_stockOf_101 : decode cX10_stockOf 101 = .ok (.iload 6, 2) := by decide +kernel
theorem dX10_stockOf_103 : decode cX10_stockOf 103 = .ok (.iconst 3, 1) := by decide +kernel
theorem dX10_stockOf_104 : decode cX10_stockOf 104 = .ok (.idiv, 1) := by decide +kernel
theorem dX10_stockOf_105 : decode cX10_stockOf 105 = .ok (.iadd, 1) := by decide +kernel
theorem dX10_stockOf_106 : decode cX10_stockOf 106 = .ok (.iload 5, 2) := by decide +kernel
theorem dX10_stockOf_108 : decode cX10_stockOf 108 = .ok (.bipush 10, 2) := by decide +kernel
theorem dX10_stockOf_110 : decode cX10_stockOf 110 = .ok (.idiv, 1) := by decide +kernel
theorem dX10_stockOf_111 : decode cX10_stockOf 111 = .ok (.iconst 5, 1) := by decide +kernel
theorem dX10_stockOf_112 : decode cX10_stockOf 112 = .ok (.iadd, 1) := by decide +kernel
theorem dX10_stockOf_113 : decode cX10_stockOf 113 = .ok (.invokestatic 52, 3) := by decide +kernel
theorem dX10_stockOf_116 : decode cX10_stockOf 116 = .ok (.istore 6, 2) := by decide +kernel
theorem dX10_stockOf_118 : decode cX10_stockOf 118 = .ok (.iinc 7 1, 3) := by decide +kernel
theorem dX10_stockOf_121 : decode cX10_stockOf 121 = .ok (.goto (-81), 3) := by decide +kernel
theorem dX10_stockOf_124 : decode cX10_stockOf 124 = .ok (.iload_n 2, 1) := by decide +kernel
theorem dX10_stockOf_125 : decode cX10_stockOf 125 = .ok (.ifCond .ne 8, 3) := by decide +kernel
theorem dX10_stockOf_128 : decode cX10_stockOf 128 = .ok (.iload 5, 2) := by decide +kernel
theorem dX10_stockOf_130 : decode cX10_stockOf 130 = .ok (.goto 5, 3) := by decide +kernel
theorem dX10_stockOf_133 : decode cX10_stockOf 133 = .ok (.iload 6, 2) := by decide +kernel
theorem dX10_stockOf_135 : decode cX10_stockOf 135 = .ok (.ireturn, 1) := by decide +kernel
def L_Woods_stockOf_40 (k124 : Int32 → Int32 → Int32 → CS → Option (Int32 × CS)) (x1 : Int32) (x2 : Int32) (x3 : Int32) (x4 : Int32) : Nat → Int32 → Int32 → Int32 → CS → Option (Int32 × CS)
  | 0, _, _, _, _ => none
  | n + 1, x5, x6, x7, σ => if x3 < x7 then k124 x2 x5 x6 σ else bnd (f_Woods_takenIn x1 0 x7 x4 σ) (fun r56 σ56 => bnd (f_Woods_takenIn x1 1 x7 x4 σ56) (fun r90 σ90 => (L_Woods_stockOf_40 k124 x1 x2 x3 x4 n) (if ((if 0 < (x5 - r56) then (x5 - r56) else 0) + ((if 0 < (x5 - r56) then (x5 - r56) else 0) / 50)) < 1000000 then ((if 0 < (x5 - r56) then (x5 - r56) else 0) + ((if 0 < (x5 - r56) then (x5 - r56) else 0) / 50)) else 1000000) (if (((if ((if 0 < (x5 - r56) then (x5 - r56) else 0) + ((if 0 < (x5 - r56) then (x5 - r56) else 0) / 50)) < 1000000 then ((if 0 < (x5 - r56) then (x5 - r56) else 0) + ((if 0 < (x5 - r56) then (x5 - r56) else 0) / 50)) else 1000000) / 10) + 5) < ((if 0 < (x6 - r90) then (x6 - r90) else 0) + ((if 0 < (x6 - r90) then (x6 - r90) else 0) / 3)) then (((if ((if 0 < (x5 - r56) then (x5 - r56) else 0) + ((if 0 < (x5 - r56) then (x5 - r56) else 0) / 50)) < 1000000 then ((if 0 < (x5 - r56) then (x5 - r56) else 0) + ((if 0 < (x5 - r56) then (x5 - r56) else 0) / 50)) else 1000000) / 10) + 5) else ((if 0 < (x6 - r90) then (x6 - r90) else 0) + ((if 0 < (x6 - r90) then (x6 - r90) else 0) / 3))) (x7 + 1) σ90))
set_option maxHeartbeats 4000000 in
set_option maxRecDepth 100000 in
theorem w_Woods_stockOf_40 (C : Cx g p s m args meth c A 8 cX10_stockOf yX10_stockOf.cls) (hr : meth.sig.returnType = (some .int))  {res : Int32 × CS}  (x1 : Int32) (x2 : Int32) (x3 : Int32) (x4 : Int32) {k124 : Int32 → Int32 → Int32 → CS → Option (Int32 × CS)} (hk124 : ∀ (x2 : Int32) (x5 : Int32) (x6 : Int32) (σ : CS) (ta : Nat → Nat), φ0 ≤ ph σ.2.2 → ph σ.2.2 ≤ BB → k124 x2 x5 x6 σ = some res → NI g p l e s m args below meth c A 2 49 8 ad Rr φ0 res ta σ [(2, .int x2), (5, .int x5), (6, .int x6)] 124 []) : ∀ (n : Nat) (x5 : Int32) (x6 : Int32) (x7 : Int32) (σ : CS) (ta : Nat → Nat), φ0 ≤ ph σ.2.2 → ph σ.2.2 ≤ BB → L_Woods_stockOf_40 k124 x1 x2 x3 x4 n x5 x6 x7 σ = some res → NI g p l e s m args below meth c A 2 49 8 ad Rr φ0 res ta σ [(0, .ref (ad 10)), (1, .int x1), (2, .int x2), (3, .int x3), (4, .int x4), (5, .int x5), (6, .int x6), (7, .int x7)] 40 [] := by
  intro n
  induction n with
  | zero =>
    intro x5 x6 x7 σ ta hφ hφ2 h
    exact absurd (show (none : Option (Int32 × CS)) = some res from h) (by intro h9; cases h9)
  | succ n ih =>
    intro x5 x6 x7 σ ta hφ hφ2 h
    rw [L_Woods_stockOf_40] at h
    refine nw_iload C dX10_stockOf_40 7 rfl ?_
    refine nw_iload_n C dX10_stockOf_42 rfl 3 rfl ?_
    refine nw_icmp_gt (tgt := 124) C dX10_stockOf_43 (by decide) h (fun _ h => ?_) (fun _ h => ?_)
    · exact nw_lv (lv' := [(2, .int x2), (5, .int x5), (6, .int x6)]) [2, 5, 6] rfl (hk124 x2 x5 x6 _ _ hφ hφ2 h)
    · refine nw_iconst (v := 0) C dX10_stockOf_46 (by decide) ?_
      refine nw_iload C dX10_stockOf_47 5 rfl ?_
      refine nw_aload_n C dX10_stockOf_49 rfl 0 rfl ?_
      refine nw_iload_n C dX10_stockOf_50 rfl 1 rfl ?_
      refine nw_iconst (v := 0) C dX10_stockOf_51 (by decide) ?_
      refine nw_iload C dX10_stockOf_52 7 rfl ?_
      refine nw_iload C dX10_stockOf_54 4 rfl ?_
      refine nc_callVI (q0 := 10) (As := [.int x1, .int 0, .int x7, .int x4]) (rest := [.int x5, .int 0]) C h (fun _ _ e => c_Woods_takenIn e hφ2) tw_1560 kv_X10_takenIn cl_Woods rfl ⟨Nat.le_of_ble_eq_true rfl, Nat.le_of_ble_eq_true rfl⟩ rfl dX10_stockOf_56 rfl (Nat.le_of_ble_eq_true rfl) hφ hφ2 (fun r56 σ56 ta h hφ hφ2 => ?_)
      refine nw_isub C dX10_stockOf_59 ?_
      refine nw_mmax C tw_1564 tw_165 tw_125 tm_max (Nat.le_of_ble_eq_true rfl) (Nat.le_of_ble_eq_true rfl) (Nat.sub_le_sub_right hφ2 _) (Nat.mul_le_mul_left 2 (Nat.sub_le_sub_right hφ2 _)) dX10_stockOf_60 ?_
      refine nw_istore (lv' := [(5, .int (if 0 < (x5 - r56) then (x5 - r56) else 0)), (0, .ref (ad 10)), (1, .int x1), (2, .int x2), (3, .int x3), (4, .int x4), (6, .int x6), (7, .int x7)]) C dX10_stockOf_63 (by decide) rfl ?_
      refine nw_ldc (v := 1000000) C tw_1565 dX10_stockOf_65 ?_
      refine nw_iload C dX10_stockOf_67 0 rfl ?_
      refine nw_iload C dX10_stockOf_69 0 rfl ?_
      refine nw_bipush (v := 50) C dX10_stockOf_71 (by decide) ?_
      refine nw_idivk C dX10_stockOf_73 (by decide) ?_
      refine nw_iadd C dX10_stockOf_74 ?_
      refine nw_mmin C tw_1566 tw_367 tw_125 tm_min (Nat.le_of_ble_eq_true rfl) (Nat.le_of_ble_eq_true rfl) (Nat.sub_le_sub_right hφ2 _) (Nat.mul_le_mul_left 2 (Nat.sub_le_sub_right hφ2 _)) dX10_stockOf_75 ?_
      refine nw_istore (lv' := [(5, .int (if ((if 0 < (x5 - r56) then (x5 - r56) else 0) + ((if 0 < (x5 - r56) then (x5 - r56) else 0) / 50)) < 1000000 then ((if 0 < (x5 - r56) then (x5 - r56) else 0) + ((if 0 < (x5 - r56) then (x5 - r56) else 0) / 50)) else 1000000)), (0, .ref (ad 10)), (1, .int x1), (2, .int x2), (3, .int x3), (4, .int x4), (6, .int x6), (7, .int x7)]) C dX10_stockOf_78 (by decide) rfl ?_
      refine nw_iconst (v := 0) C dX10_stockOf_80 (by decide) ?_
      refine nw_iload C dX10_stockOf_81 6 rfl ?_
      refine nw_aload_n C dX10_stockOf_83 rfl 1 rfl ?_
      refine nw_iload_n C dX10_stockOf_84 rfl 2 rfl ?_
      refine nw_iconst (v := 1) C dX10_stockOf_85 (by decide) ?_
      refine nw_iload C dX10_stockOf_86 7 rfl ?_
      refine nw_iload C dX10_stockOf_88 5 rfl ?_
      refine nc_callVI (q0 := 10) (As := [.int x1, .int 1, .int x7, .int x4]) (rest := [.int x6, .int 0]) C h (fun _ _ e => c_Woods_takenIn e hφ2) tw_1560 kv_X10_takenIn cl_Woods rfl ⟨Nat.le_of_ble_eq_true rfl, Nat.le_of_ble_eq_true rfl⟩ rfl dX10_stockOf_90 rfl (Nat.le_of_ble_eq_true rfl) hφ hφ2 (fun r90 σ90 ta h hφ hφ2 => ?_)
      refine nw_isub C dX10_stockOf_93 ?_
      refine nw_mmax C tw_1564 tw_165 tw_125 tm_max (Nat.le_of_ble_eq_true rfl) (Nat.le_of_ble_eq_true rfl) (Nat.sub_le_sub_right hφ2 _) (Nat.mul_le_mul_left 2 (Nat.sub_le_sub_right hφ2 _)) dX10_stockOf_94 ?_
      refine nw_istore (lv' := [(6, .int (if 0 < (x6 - r90) then (x6 - r90) else 0)), (5, .int (if ((if 0 < (x5 - r56) then (x5 - r56) else 0) + ((if 0 < (x5 - r56) then (x5 - r56) else 0) / 50)) < 1000000 then ((if 0 < (x5 - r56) then (x5 - r56) else 0) + ((if 0 < (x5 - r56) then (x5 - r56) else 0) / 50)) else 1000000)), (0, .ref (ad 10)), (1, .int x1), (2, .int x2), (3, .int x3), (4, .int x4), (7, .int x7)]) C dX10_stockOf_97 (by decide) rfl ?_
      refine nw_iload C dX10_stockOf_99 0 rfl ?_
      refine nw_iload C dX10_stockOf_101 0 rfl ?_
      refine nw_iconst (v := 3) C dX10_stockOf_103 (by decide) ?_
      refine nw_idivk C dX10_stockOf_104 (by decide) ?_
      refine nw_iadd C dX10_stockOf_105 ?_
      refine nw_iload C dX10_stockOf_106 1 rfl ?_
      refine nw_bipush (v := 10) C dX10_stockOf_108 (by decide) ?_
      refine nw_idivk C dX10_stockOf_110 (by decide) ?_
      refine nw_iconst (v := 5) C dX10_stockOf_111 (by decide) ?_
      refine nw_iadd C dX10_stockOf_112 ?_
      refine nw_mmin C tw_1566 tw_367 tw_125 tm_min (Nat.le_of_ble_eq_true rfl) (Nat.le_of_ble_eq_true rfl) (Nat.sub_le_sub_right hφ2 _) (Nat.mul_le_mul_left 2 (Nat.sub_le_sub_right hφ2 _)) dX10_stockOf_113 ?_
      refine nw_istore (lv' := [(6, .int (if (((if ((if 0 < (x5 - r56) then (x5 - r56) else 0) + ((if 0 < (x5 - r56) then (x5 - r56) else 0) / 50)) < 1000000 then ((if 0 < (x5 - r56) then (x5 - r56) else 0) + ((if 0 < (x5 - r56) then (x5 - r56) else 0) / 50)) else 1000000) / 10) + 5) < ((if 0 < (x6 - r90) then (x6 - r90) else 0) + ((if 0 < (x6 - r90) then (x6 - r90) else 0) / 3)) then (((if ((if 0 < (x5 - r56) then (x5 - r56) else 0) + ((if 0 < (x5 - r56) then (x5 - r56) else 0) / 50)) < 1000000 then ((if 0 < (x5 - r56) then (x5 - r56) else 0) + ((if 0 < (x5 - r56) then (x5 - r56) else 0) / 50)) else 1000000) / 10) + 5) else ((if 0 < (x6 - r90) then (x6 - r90) else 0) + ((if 0 < (x6 - r90) then (x6 - r90) else 0) / 3)))), (5, .int (if ((if 0 < (x5 - r56) then (x5 - r56) else 0) + ((if 0 < (x5 - r56) then (x5 - r56) else 0) / 50)) < 1000000 then ((if 0 < (x5 - r56) then (x5 - r56) else 0) + ((if 0 < (x5 - r56) then (x5 - r56) else 0) / 50)) else 1000000)), (0, .ref (ad 10)), (1, .int x1), (2, .int x2), (3, .int x3), (4, .int x4), (7, .int x7)]) C dX10_stockOf_116 (by decide) rfl ?_
      refine nw_iinc (lv' := [(7, .int (x7 + 1)), (6, .int (if (((if ((if 0 < (x5 - r56) then (x5 - r56) else 0) + ((if 0 < (x5 - r56) then (x5 - r56) else 0) / 50)) < 1000000 then ((if 0 < (x5 - r56) then (x5 - r56) else 0) + ((if 0 < (x5 - r56) then (x5 - r56) else 0) / 50)) else 1000000) / 10) + 5) < ((if 0 < (x6 - r90) then (x6 - r90) else 0) + ((if 0 < (x6 - r90) then (x6 - r90) else 0) / 3)) then (((if ((if 0 < (x5 - r56) then (x5 - r56) else 0) + ((if 0 < (x5 - r56) then (x5 - r56) else 0) / 50)) < 1000000 then ((if 0 < (x5 - r56) then (x5 - r56) else 0) + ((if 0 < (x5 - r56) then (x5 - r56) else 0) / 50)) else 1000000) / 10) + 5) else ((if 0 < (x6 - r90) then (x6 - r90) else 0) + ((if 0 < (x6 - r90) then (x6 - r90) else 0) / 3)))), (5, .int (if ((if 0 < (x5 - r56) then (x5 - r56) else 0) + ((if 0 < (x5 - r56) then (x5 - r56) else 0) / 50)) < 1000000 then ((if 0 < (x5 - r56) then (x5 - r56) else 0) + ((if 0 < (x5 - r56) then (x5 - r56) else 0) / 50)) else 1000000)), (0, .ref (ad 10)), (1, .int x1), (2, .int x2), (3, .int x3), (4, .int x4)]) C (x7 + 1) dX10_stockOf_118 7 rfl rfl (by decide) rfl ?_
      refine nw_goto (tgt := 40) C dX10_stockOf_121 (by decide) ?_
      exact nw_lv (lv' := [(0, .ref (ad 10)), (1, .int x1), (2, .int x2), (3, .int x3), (4, .int x4), (5, .int (if ((if 0 < (x5 - r56) then (x5 - r56) else 0) + ((if 0 < (x5 - r56) then (x5 - r56) else 0) / 50)) < 1000000 then ((if 0 < (x5 - r56) then (x5 - r56) else 0) + ((if 0 < (x5 - r56) then (x5 - r56) else 0) / 50)) else 1000000)), (6, .int (if (((if ((if 0 < (x5 - r56) then (x5 - r56) else 0) + ((if 0 < (x5 - r56) then (x5 - r56) else 0) / 50)) < 1000000 then ((if 0 < (x5 - r56) then (x5 - r56) else 0) + ((if 0 < (x5 - r56) then (x5 - r56) else 0) / 50)) else 1000000) / 10) + 5) < ((if 0 < (x6 - r90) then (x6 - r90) else 0) + ((if 0 < (x6 - r90) then (x6 - r90) else 0) / 3)) then (((if ((if 0 < (x5 - r56) then (x5 - r56) else 0) + ((if 0 < (x5 - r56) then (x5 - r56) else 0) / 50)) < 1000000 then ((if 0 < (x5 - r56) then (x5 - r56) else 0) + ((if 0 < (x5 - r56) then (x5 - r56) else 0) / 50)) else 1000000) / 10) + 5) else ((if 0 < (x6 - r90) then (x6 - r90) else 0) + ((if 0 < (x6 - r90) then (x6 - r90) else 0) / 3)))), (7, .int (x7 + 1))]) [3, 4, 5, 6, 7, 2, 1, 0] rfl (ih (if ((if 0 < (x5 - r56) then (x5 - r56) else 0) + ((if 0 < (x5 - r56) then (x5 - r56) else 0) / 50)) < 1000000 then ((if 0 < (x5 - r56) then (x5 - r56) else 0) + ((if 0 < (x5 - r56) then (x5 - r56) else 0) / 50)) else 1000000) (if (((if ((if 0 < (x5 - r56) then (x5 - r56) else 0) + ((if 0 < (x5 - r56) then (x5 - r56) else 0) / 50)) < 1000000 then ((if 0 < (x5 - r56) then (x5 - r56) else 0) + ((if 0 < (x5 - r56) then (x5 - r56) else 0) / 50)) else 1000000) / 10) + 5) < ((if 0 < (x6 - r90) then (x6 - r90) else 0) + ((if 0 < (x6 - r90) then (x6 - r90) else 0) / 3)) then (((if ((if 0 < (x5 - r56) then (x5 - r56) else 0) + ((if 0 < (x5 - r56) then (x5 - r56) else 0) / 50)) < 1000000 then ((if 0 < (x5 - r56) then (x5 - r56) else 0) + ((if 0 < (x5 - r56) then (x5 - r56) else 0) / 50)) else 1000000) / 10) + 5) else ((if 0 < (x6 - r90) then (x6 - r90) else 0) + ((if 0 < (x6 - r90) then (x6 - r90) else 0) / 3))) (x7 + 1) _ _ hφ hφ2 h)
def B_Woods_stockOf_124   (x2 : Int32) (x5 : Int32) (x6 : Int32) (σ : CS) : Option (Int32 × CS) := if x2 = 0 then some (x5, σ) else some (x6, σ)
set_option maxHeartbeats 4000000 in
set_option maxRecDepth 100000 in
theorem w_Woods_stockOf_124 (C : Cx g p s m args meth c A 8 cX10_stockOf yX10_stockOf.cls) (hr : meth.sig.returnType = (some .int))  {res : Int32 × CS}   (x2 : Int32) (x5 : Int32) (x6 : Int32)  (σ : CS) (ta : Nat → Nat) (hφ : φ0 ≤ ph σ.2.2) (hφ2 : ph σ.2.2 ≤ BB) (h : B_Woods_stockOf_124 x2 x5 x6 σ = some res) : NI g p l e s m args below meth c A 2 49 8 ad Rr φ0 res ta σ [(2, .int x2), (5, .int x5), (6, .int x6)] 124 [] := by
  unfold B_Woods_stockOf_124 at h
  refine nw_iload_n C dX10_stockOf_124 rfl 0 rfl ?_
  refine nw_if_ne (tgt := 133) C dX10_stockOf_125 (by decide) h (fun _ h => ?_) (fun _ h => ?_)
  · refine nw_iload C dX10_stockOf_128 1 rfl ?_
    refine nw_goto (tgt := 135) C dX10_stockOf_130 (by decide) ?_
    exact nc_iret C hr dX10_stockOf_135 hφ hφ2 h
  · refine nw_iload C dX10_stockOf_133 2 rfl ?_
    exact nc_iret C hr dX10_stockOf_135 hφ hφ2 h
def f_Woods_stockOf (p0 : Int32) (p1 : Int32) (p2 : Int32) (p3 : Int32) (σ : CS) : Option (Int32 × CS) := bnd (f_Table_get 14 p0 1 σ) (fun r6 σ6 => bnd (f_Table_get 14 p0 2 σ6) (fun r17 σ17 => bnd (f_Woods_firstYear p0 σ17) (fun r25 σ25 => if r25 ≤ p2 then bnd (f_Woods_firstYear p0 σ25) (fun r35 σ35 => L_Woods_stockOf_40 (B_Woods_stockOf_124) p0 p1 p2 p3 FU r6 r17 r35 σ35) else some ((-1), σ25))))
set_option maxHeartbeats 4000000 in
set_option maxRecDepth 100000 in
theorem c_Woods_stockOf {l : Launch} {g : EG} {ad ta : Nat → Nat} {Rr : va_W} {σ σ' : CS} {r : Int32} {p0 : Int32} {p1 : Int32} {p2 : Int32} {p3 : Int32}  (h : f_Woods_stockOf p0 p1 p2 p3 σ = some (r, σ')) (hφ2 : ph σ.2.2 ≤ BB) : CtI l g yX10_stockOf (.code yX10_stockOf cX10_stockOf 8 (some .int)) 2 49 ad ta Rr σ [.ref (ad 10), .int p0, .int p1, .int p2, .int p3] r σ' := by
  refine Ct.of rfl (by decide) (Nat.le_of_ble_eq_true rfl) ?_
  intro p e s m args below meth c A C hr
  have hφ : ph σ.2.2 ≤ ph σ.2.2 := Nat.le_refl _
  refine nw_zero (ph σ.2.2) ?_
  show NI g p l e s m args below meth c A 2 49 8 ad Rr (ph σ.2.2) (r, σ') ta σ [(0, .ref (ad 10)), (1, .int p0), (2, .int p1), (3, .int p2), (4, .int p3)] 0 []
  unfold f_Woods_stockOf at h
  refine nw_aload_n C dX10_stockOf_0 rfl 0 rfl ?_
  refine nw_get (v := .ref (ad 25)) C in_X10 10 cl_Woods rfl 0 (by decide) tw_501 rfl rfl dX10_stockOf_1 ?_
  refine nw_iload_n C dX10_stockOf_4 rfl 1 rfl ?_
  refine nw_iconst (v := 1) C dX10_stockOf_5 (by decide) ?_
  refine nc_callVI (q0 := 25) (As := [.int p0, .int 1]) (rest := []) C h (fun _ _ e => c_Table_get 14 (by decide) e hφ2) tw_1542 kv_X9_get (cl_T 14 (by decide)) rfl ⟨Nat.le_of_ble_eq_true rfl, Nat.le_of_ble_eq_true rfl⟩ rfl dX10_stockOf_6 rfl (Nat.le_of_ble_eq_true rfl) hφ hφ2 (fun r6 σ6 ta h hφ hφ2 => ?_)
  refine nw_istore (lv' := [(5, .int r6), (0, .ref (ad 10)), (1, .int p0), (2, .int p1), (3, .int p2), (4, .int p3)]) C dX10_stockOf_9 (by decide) rfl ?_
  refine nw_aload_n C dX10_stockOf_11 rfl 1 rfl ?_
  refine nw_get (v := .ref (ad 25)) C in_X10 10 cl_Woods rfl 0 (by decide) tw_501 rfl rfl dX10_stockOf_12 ?_
  refine nw_iload_n C dX10_stockOf_15 rfl 2 rfl ?_
  refine nw_iconst (v := 2) C dX10_stockOf_16 (by decide) ?_
  refine nc_callVI (q0 := 25) (As := [.int p0, .int 2]) (rest := []) C h (fun _ _ e => c_Table_get 14 (by decide) e hφ2) tw_1542 kv_X9_get (cl_T 14 (by decide)) rfl ⟨Nat.le_of_ble_eq_true rfl, Nat.le_of_ble_eq_true rfl⟩ rfl dX10_stockOf_17 rfl (Nat.le_of_ble_eq_true rfl) hφ hφ2 (fun r17 σ17 ta h hφ hφ2 => ?_)
  refine nw_istore (lv' := [(6, .int r17), (5, .int r6), (0, .ref (ad 10)), (1, .int p0), (2, .int p1), (3, .int p2), (4, .int p3)]) C dX10_stockOf_20 (by decide) rfl ?_
  refine nw_iload_n C dX10_stockOf_22 rfl 5 rfl ?_
  refine nw_aload_n C dX10_stockOf_23 rfl 2 rfl ?_
  refine nw_iload_n C dX10_stockOf_24 rfl 3 rfl ?_
  refine nc_callVI (q0 := 10) (As := [.int p0]) (rest := [.int p2]) C h (fun _ _ e => c_Woods_firstYear e hφ2) tw_1559 kv_X10_firstYear cl_Woods rfl ⟨Nat.le_of_ble_eq_true rfl, Nat.le_of_ble_eq_true rfl⟩ rfl dX10_stockOf_25 rfl (Nat.le_of_ble_eq_true rfl) hφ hφ2 (fun r25 σ25 ta h hφ hφ2 => ?_)
  refine nw_icmp_ge (tgt := 33) C dX10_stockOf_28 (by decide) h (fun _ h => ?_) (fun _ h => ?_)
  · refine nw_aload_n C dX10_stockOf_33 rfl 2 rfl ?_
    refine nw_iload_n C dX10_stockOf_34 rfl 3 rfl ?_
    refine nc_callVI (q0 := 10) (As := [.int p0]) (rest := []) C h (fun _ _ e => c_Woods_firstYear e hφ2) tw_1559 kv_X10_firstYear cl_Woods rfl ⟨Nat.le_of_ble_eq_true rfl, Nat.le_of_ble_eq_true rfl⟩ rfl dX10_stockOf_35 rfl (Nat.le_of_ble_eq_true rfl) hφ hφ2 (fun r35 σ35 ta h hφ hφ2 => ?_)
    refine nw_istore (lv' := [(7, .int r35), (6, .int r17), (5, .int r6), (0, .ref (ad 10)), (1, .int p0), (2, .int p1), (3, .int p2), (4, .int p3)]) C dX10_stockOf_38 (by decide) rfl ?_
    exact nw_lv (lv' := [(0, .ref (ad 10)), (1, .int p0), (2, .int p1), (3, .int p2), (4, .int p3), (5, .int r6), (6, .int r17), (7, .int r35)]) [3, 4, 5, 6, 7, 2, 1, 0] rfl (w_Woods_stockOf_40 C hr p0 p1 p2 p3 (fun x2_ x5_ x6_ σ_ ta_ hφ_ hφ2_ h_ => w_Woods_stockOf_124 C hr x2_ x5_ x6_ σ_ ta_ hφ_ hφ2_ h_) FU r6 r17 r35 _ _ hφ hφ2 h)
  · refine nw_iconst (v := (-1)) C dX10_stockOf_31 (by decide) ?_
    exact nc_iret C hr dX10_stockOf_32 hφ hφ2 h
end
