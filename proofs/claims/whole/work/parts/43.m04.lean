section
variable {g : EG} {p : Program} {l : Launch} {e : Env} {s : State} {m : MethodId} {args : Array Value} {below : List Frame} {meth : Method} {c : Code} {A : Nat → Prop} {ad am ta : Nat → Nat} {Rr : va_W} {φ0 : Nat}
theorem dX12_fault_0 : decode cX12_fault 0 = .ok (.aload_n 0, 1) := by decide +kernel
theorem dX12_fault_1 : decode cX12_fault 1 = .ok (.iconst 0, 1) := by decide +kernel
theorem dX12_fault_2 : decode cX12_fault 2 = .ok (.putfield 253, 3) := by decide +kernel
theorem dX12_fault_5 : decode cX12_fault 5 = .ok (.aload_n 0, 1) := by decide +kernel
theorem dX12_fault_6 : decode cX12_fault 6 = .ok (.getfield 44, 3) := by decide +kernel
theorem dX12_fault_9 : decode cX12_fault 9 = .ok (.ireturn, 1) := by decide +kernel
def f_M_fault  (σ : CS) : Option (Int32 × CS) := some ((σ.1 25), (sF σ 0 0))
set_option maxHeartbeats 4000000 in
set_option maxRecDepth 100000 in
theorem c_M_fault {l : Launch} {g : EG} {am : Nat → Nat} {Rr : va_W} {σ σ' : CS} {r : Int32}   (h : f_M_fault σ = some (r, σ')) : CmI l g yX12_fault (.code yX12_fault cX12_fault 1 (some .int)) 0 0 am Rr σ [.ref (am 112)] r σ' := by
  refine Ct.of rfl (by decide) (Nat.le_of_ble_eq_true rfl) ?_
  intro p e s m args below meth c A C hr
  show NMI g p l e s m args below meth c A 0 0 1 am Rr (r, σ') σ [(0, .ref (am 112))] 0 []
  unfold f_M_fault at h
  refine nw_aload_n C dX12_fault_0 rfl 0 rfl ?_
  refine nw_iconst (v := 0) C dX12_fault_1 (by decide) ?_
  refine nw_put (ty := .int) C in_X12 0 ml_O rfl 0 (by decide) tyX12 tyX12_ok nmX12 tw_1573 rfl rfl (by decide +kernel) rfl rfl (Nat.le_of_ble_eq_true rfl) dX12_fault_2 ms_0 ?_
  refine nw_aload_n C dX12_fault_5 rfl 0 rfl ?_
  refine nw_get (v := .int (σ.1 25)) C in_X12 0 ml_O rfl 25 (by decide) tw_1598 rfl rfl dX12_fault_6 ?_
  exact nm_iret C hr dX12_fault_9 h
theorem dX12_forces_0 : decode cX12_forces 0 = .ok (.aload_n 0, 1) := by decide +kernel
theorem dX12_forces_1 : decode cX12_forces 1 = .ok (.getfield 422, 3) := by decide +kernel
theorem dX12_forces_4 : decode cX12_forces 4 = .ok (.iconst 1, 1) := by decide +kernel
theorem dX12_forces_5 : decode cX12_forces 5 = .ok (.isub, 1) := by decide +kernel
theorem dX12_forces_6 : decode cX12_forces 6 = .ok (.istore_n 2, 1) := by decide +kernel
theorem dX12_forces_7 : decode cX12_forces 7 = .ok (.iload_n 2, 1) := by decide +kernel
theorem dX12_forces_8 : decode cX12_forces 8 = .ok (.ifCond .lt 123, 3) := by decide +kernel
theorem dX12_forces_11 : decode cX12_forces 11 = .ok (.aload_n 0, 1) := by decide +kernel
theorem dX12_forces_12 : decode cX12_forces 12 = .ok (.getfield 75, 3) := by decide +kernel
theorem dX12_forces_15 : decode cX12_forces 15 = .ok (.iload_n 2, 1) := by decide +kernel
theorem dX12_forces_16 : decode cX12_forces 16 = .ok (.aload_n 0, 1) := by decide +kernel
theorem dX12_forces_17 : decode cX12_forces 17 = .ok (.getfield 48, 3) := by decide +kernel
theorem dX12_forces_20 : decode cX12_forces 20 = .ok (.iload_n 2, 1) := by decide +kernel
theorem dX12_forces_21 : decode cX12_forces 21 = .ok (.iaload, 1) := by decide +kernel
theorem dX12_forces_22 : decode cX12_forces 22 = .ok (.iload_n 1, 1) := by decide +kernel
theorem dX12_forces_23 : decode cX12_forces 23 = .ok (.if_icmp .gt 7, 3) := by decide +kernel
theorem dX12_forces_26 : decode cX12_forces 26 = .ok (.iconst 1, 1) := by decide +kernel
theorem dX12_forces_27 : decode cX12_forces 27 = .ok (.goto 4, 3) := by decide +kernel
theorem dX12_forces_30 : decode cX12_forces 30 = .ok (.iconst 0, 1) := by decide +kernel
theorem dX12_forces_31 : decode cX12_forces 31 = .ok (.bastore, 1) := by decide +kernel
theorem dX12_forces_32 : decode cX12_forces 32 = .ok (.iload_n 2, 1) := by decide +kernel
theorem dX12_forces_33 : decode cX12_forces 33 = .ok (.iconst 1, 1) := by decide +kernel
theorem dX12_forces_34 : decode cX12_forces 34 = .ok (.iadd, 1) := by decide +kernel
theorem dX12_forces_35 : decode cX12_forces 35 = .ok (.istore_n 3, 1) := by decide +kernel
theorem dX12_forces_36 : decode cX12_forces 36 = .ok (.iload_n 3, 1) := by decide +kernel
theorem dX12_forces_37 : decode cX12_forces 37 = .ok (.aload_n 0, 1) := by decide +kernel
theorem dX12_forces_38 : decode cX12_forces 38 = .ok (.getfield 422, 3) := by decide +kernel
theorem dX12_forces_41 : decode cX12_forces 41 = .ok (.if_icmp .ge 84, 3) := by decide +kernel
theorem dX12_forces_44 : decode cX12_forces 44 = .ok (.aload_n 0, 1) := by decide +kernel
theorem dX12_forces_45 : decode cX12_forces 45 = .ok (.getfield 75, 3) := by decide +kernel
theorem dX12_forces_48 : decode cX12_forces 48 = .ok (.iload_n 2, 1) := by decide +kernel
theorem dX12_forces_49 : decode cX12_forces 49 = .ok (.baload, 1) := by decide +kernel
theorem dX12_forces_50 : decode cX12_forces 50 = .ok (.ifCond .eq 75, 3) := by decide +kernel
theorem dX12_forces_53 : decode cX12_forces 53 = .ok (.bipush 12, 2) := by decide +kernel
theorem dX12_forces_55 : decode cX12_forces 55 = .ok (.iload_n 3, 1) := by decide +kernel
theorem dX12_forces_56 : decode cX12_forces 56 = .ok (.imul, 1) := by decide +kernel
theorem dX12_forces_57 : decode cX12_forces 57 = .ok (.istore 4, 2) := by decide +kernel
theorem dX12_forces_59 : decode cX12_forces 59 = .ok (.iload 4, 2) := by decide +kernel
theorem dX12_forces_61 : decode cX12_forces 61 = .ok (.bipush 12, 2) := by decide +kernel
theorem dX12_forces_63 : decode cX12_forces 63 = .ok (.iload_n 3, 1) := by decide +kernel
theorem dX12_forces_64 : decode cX12_forces 64 = .ok (.imul, 1) := by decide +kernel
theorem dX12_forces_65 : decode cX12_forces 65 = .ok (.aload_n 0, 1) := by decide +kernel
theorem dX12_forces_66 : decode cX12_forces 66 = .ok (.getfield 51, 3) := by decide +kernel
theorem dX12_forces_69 : decode cX12_forces 69 = .ok (.iload_n 3, 1) := by decide +kernel
theorem dX12_forces_70 : decode cX12_forces 70 = .ok (.iaload, 1) := by decide +kernel
theorem dX12_forces_71 : decode cX12_forces 71 = .ok (.iadd, 1) := by decide +kernel
theorem dX12_forces_72 : decode cX12_forces 72 = .ok (.if_icmp .ge 47, 3) := by decide +kernel
theorem dX12_forces_75 : decode cX12_forces 75 = .ok (.aload_n 0, 1) := by decide +kernel
theorem dX12_forces_76 : decode cX12_forces 76 = .ok (.getfield 75, 3) := by decide +kernel
theorem dX12_forces_79 : decode cX12_forces 79 = .ok (.iload_n 3, 1) := by decide +kernel
theorem dX12_forces_80 : decode cX12_forces 80 = .ok (.baload, 1) := by decide +kernel
theorem dX12_forces_81 : decode cX12_forces 81 = .ok (.ifCond .eq 32, 3) := by decide +kernel
theorem dX12_forces_84 : decode cX12_forces 84 = .ok (.aload_n 0, 1) := by decide +kernel
theorem dX12_forces_85 : decode cX12_forces 85 = .ok (.getfield 54, 3) := by decide +kernel
theorem dX12_forces_88 : decode cX12_forces 88 = .ok (.iload 4, 2) := by decide +kernel
theorem dX12_forces_90 : decode cX12_forces 90 = .ok (.iaload, 1) := by decide +kernel
theorem dX12_forces_91 : decode cX12_forces 91 = .ok (.iconst 4, 1) := by decide +kernel
theorem dX12_forces_92 : decode cX12_forces 92 = .ok (.if_icmp .ne 21, 3) := by decide +kernel
theorem dX12_forces_95 : decode cX12_forces 95 = .ok (.aload_n 0, 1) := by decide +kernel
theorem dX12_forces_96 : decode cX12_forces 96 = .ok (.getfield 57, 3) := by decide +kernel
theorem dX12_forces_99 : decode cX12_forces 99 = .ok (.iload 4, 2) := by decide +kernel
theorem dX12_forces_101 : decode cX12_forces 101 = .ok (.iaload, 1) := by decide +kernel
theorem dX12_forces_102 : decode cX12_forces 102 = .ok (.iload_n 2, 1) := by decide +kernel
theorem dX12_forces_103 : decode cX12_forces 103 = .ok (.if_icmp .ne 10, 3) := by decide +kernel
theorem dX12_forces_106 : decode cX12_forces 106 = .ok (.aload_n 0, 1) := by decide +kernel
theorem dX12_forces_107 : decode cX12_forces 107 = .ok (.getfield 75, 3) := by decide +kernel
theorem dX12_forces_110 : decode cX12_forces 110 = .ok (.iload_n 2, 1) := by decide +kernel
theorem dX12_forces_111 : decode cX12_forces 111 = .ok (.iconst 0, 1) := by decide +kernel
theorem dX12_forces_112 : decode cX12_forces 112 = .ok (.bastore, 1) := by decide +kernel
theorem dX12_forces_113 : decode cX12_forces 113 = .ok (.iinc 4 1, 3) := by decide +kernel
theorem dX12_forces_116 : decode cX12_forces 116 = .ok (.goto (-57), 3) := by decide +kernel
theorem dX12_forces_119 : decode cX12_forces 119 = .ok (.iinc 3 1, 3) := by decide +kernel
theorem dX12_forces_122 : decode cX12_forces 122 = .ok (.goto (-86), 3) := by decide +kernel
theorem dX12_forces_125 : decode cX12_forces 125 = .ok (.iinc 2 (-1), 3) := by decide +kernel
theorem dX12_forces_128 : decode cX12_forces 128 = .ok (.goto (-121), 3) := by decide +kernel
theorem dX12_forces_131 : decode cX12_forces 131 = .ok (.return_, 1) := by decide +kernel
def L_M_forces_59 (k36 : Int32 → CS → Option (Int32 × CS)) (x1 : Int32) (x2 : Int32) (x3 : Int32) : Nat → Int32 → CS → Option (Int32 × CS)
  | 0, _, _ => none
  | n + 1, x4, σ => gix x3 10 (if ((12 * x3) + (rd σ 29 x3)) ≤ x4 then k36 (x3 + 1) σ else gix x3 10 (if (rd σ 37 x3) = 0 then (L_M_forces_59 k36 x1 x2 x3 n) (x4 + 1) σ else gix x4 120 (if (rd σ 30 x4) = 4 then gix x4 120 (if (rd σ 31 x4) = x2 then gix x2 10 ((L_M_forces_59 k36 x1 x2 x3 n) (x4 + 1) (wr σ 37 x2 (vp_nar .boolean 0))) else (L_M_forces_59 k36 x1 x2 x3 n) (x4 + 1) σ) else (L_M_forces_59 k36 x1 x2 x3 n) (x4 + 1) σ)))
set_option maxHeartbeats 4000000 in
set_option maxRecDepth 100000 in
theorem w_M_forces_59 (C : Cx g p s m args meth c A 5 cX12_forces yX12_forces.cls) (hr : meth.sig.returnType = none)  {res : Int32 × CS}  (x1 : Int32) (x2 : Int32) (x3 : Int32) {k36 : Int32 → CS → Option (Int32 × CS)} (hk36 : ∀ (x3 : Int32) (σ : CS), k36 x3 σ = some res → NMV g p l e s m args below meth c A 0 0 5 am Rr res σ [(0, .ref (am 112)), (1, .int x1), (2, .int x2), (3, .int x3)] 36 []) : ∀ (n : Nat) (x4 : Int32) (σ : CS), L_M_forces_59 k36 x1 x2 x3 n x4 σ = some res → NMV g p l e s m args below meth c A 0 0 5 am Rr res σ [(0, .ref (am 112)), (1, .int x1), (2, .int x2), (3, .int x3), (4, .int x4)] 59 [] := by
  intro n
  induction n with
  | zero =>
    intro x4 σ h
    exact absurd (show (none : Option (Int32 × CS)) = some res from h) (by intro h9; cases h9)
  | succ n ih =>
    intro x4 σ h
    rw [L_M_forces_59] at h
    refine nw_iload C dX12_forces_59 4 rfl ?_
    refine nw_bipush (v := 12) C dX12_forces_61 (by decide) ?_
    refine nw_iload_n C dX12_forces_63 rfl 3 rfl ?_
    refine nw_imul C dX12_forces_64 ?_
    refine nw_aload_n C dX12_forces_65 rfl 0 rfl ?_
    refine nw_get (v := .ref (am 29)) C in_X12 0 ml_O rfl 29 (by decide) tw_1602 rfl mf_29 dX12_forces_66 ?_
    refine nw_iload_n C dX12_forces_69 rfl 3 rfl ?_
    refine nw_iald C 13 ml_29 dX12_forces_70 h (fun h => ?_)
    refine nw_iadd C dX12_forces_71 ?_
    refine nw_icmp_ge (tgt := 119) C dX12_forces_72 (by decide) h (fun _ h => ?_) (fun _ h => ?_)
    · refine nw_iinc (lv' := [(3, .int (x3 + 1)), (0, .ref (am 112)), (1, .int x1), (2, .int x2), (4, .int x4)]) C (x3 + 1) dX12_forces_119 3 rfl rfl (by decide) rfl ?_
      refine nw_goto (tgt := 36) C dX12_forces_122 (by decide) ?_
      exact nw_lv (lv' := [(0, .ref (am 112)), (1, .int x1), (2, .int x2), (3, .int (x3 + 1))]) [1, 2, 3, 0] rfl (hk36 (x3 + 1) _ h)
    · refine nw_aload_n C dX12_forces_75 rfl 0 rfl ?_
      refine nw_get (v := .ref (am 37)) C in_X12 0 ml_O rfl 37 (by decide) tw_1610 rfl mf_37 dX12_forces_76 ?_
      refine nw_iload_n C dX12_forces_79 rfl 3 rfl ?_
      refine nw_zald C 21 ml_37 dX12_forces_80 h (fun h => ?_)
      refine nw_if_eq (tgt := 113) C dX12_forces_81 (by decide) h (fun _ h => ?_) (fun _ h => ?_)
      · refine nw_iinc (lv' := [(4, .int (x4 + 1)), (0, .ref (am 112)), (1, .int x1), (2, .int x2), (3, .int x3)]) C (x4 + 1) dX12_forces_113 4 rfl rfl (by decide) rfl ?_
        refine nw_goto (tgt := 59) C dX12_forces_116 (by decide) ?_
        exact nw_lv (lv' := [(0, .ref (am 112)), (1, .int x1), (2, .int x2), (3, .int x3), (4, .int (x4 + 1))]) [1, 2, 3, 4, 0] rfl (ih (x4 + 1) _ h)
      · refine nw_aload_n C dX12_forces_84 rfl 0 rfl ?_
        refine nw_get (v := .ref (am 30)) C in_X12 0 ml_O rfl 30 (by decide) tw_1603 rfl mf_30 dX12_forces_85 ?_
        refine nw_iload C dX12_forces_88 4 rfl ?_
        refine nw_iald C 14 ml_30 dX12_forces_90 h (fun h => ?_)
        refine nw_iconst (v := 4) C dX12_forces_91 (by decide) ?_
        refine nw_icmp_ne (tgt := 113) C dX12_forces_92 (by decide) h (fun _ h => ?_) (fun _ h => ?_)
        · refine nw_aload_n C dX12_forces_95 rfl 0 rfl ?_
          refine nw_get (v := .ref (am 31)) C in_X12 0 ml_O rfl 31 (by decide) tw_1604 rfl mf_31 dX12_forces_96 ?_
          refine nw_iload C dX12_forces_99 4 rfl ?_
          refine nw_iald C 15 ml_31 dX12_forces_101 h (fun h => ?_)
          refine nw_iload_n C dX12_forces_102 rfl 2 rfl ?_
          refine nw_icmp_ne (tgt := 113) C dX12_forces_103 (by decide) h (fun _ h => ?_) (fun _ h => ?_)
          · refine nw_aload_n C dX12_forces_106 rfl 0 rfl ?_
            refine nw_get (v := .ref (am 37)) C in_X12 0 ml_O rfl 37 (by decide) tw_1610 rfl mf_37 dX12_forces_107 ?_
            refine nw_iload_n C dX12_forces_110 rfl 2 rfl ?_
            refine nw_iconst (v := 0) C dX12_forces_111 (by decide) ?_
            refine nw_zast C 21 ml_37 dX12_forces_112 h ms_37 (fun h => ?_)
            refine nw_iinc (lv' := [(4, .int (x4 + 1)), (0, .ref (am 112)), (1, .int x1), (2, .int x2), (3, .int x3)]) C (x4 + 1) dX12_forces_113 4 rfl rfl (by decide) rfl ?_
            refine nw_goto (tgt := 59) C dX12_forces_116 (by decide) ?_
            exact nw_lv (lv' := [(0, .ref (am 112)), (1, .int x1), (2, .int x2), (3, .int x3), (4, .int (x4 + 1))]) [1, 2, 3, 4, 0] rfl (ih (x4 + 1) _ h)
          · refine nw_iinc (lv' := [(4, .int (x4 + 1)), (0, .ref (am 112)), (1, .int x1), (2, .int x2), (3, .int x3)]) C (x4 + 1) dX12_forces_113 4 rfl rfl (by decide) rfl ?_
            refine nw_goto (tgt := 59) C dX12_forces_116 (by decide) ?_
            exact nw_lv (lv' := [(0, .ref (am 112)), (1, .int x1), (2, .int x2), (3, .int x3), (4, .int (x4 + 1))]) [1, 2, 3, 4, 0] rfl (ih (x4 + 1) _ h)
        · refine nw_iinc (lv' := [(4, .int (x4 + 1)), (0, .ref (am 112)), (1, .int x1), (2, .int x2), (3, .int x3)]) C (x4 + 1) dX12_forces_113 4 rfl rfl (by decide) rfl ?_
          refine nw_goto (tgt := 59) C dX12_forces_116 (by decide) ?_
          exact nw_lv (lv' := [(0, .ref (am 112)), (1, .int x1), (2, .int x2), (3, .int x3), (4, .int (x4 + 1))]) [1, 2, 3, 4, 0] rfl (ih (x4 + 1) _ h)
def L_M_forces_36 (k7 : Int32 → CS → Option (Int32 × CS)) (x1 : Int32) (x2 : Int32) : Nat → Int32 → CS → Option (Int32 × CS)
  | 0, _, _ => none
  | n + 1, x3, σ => if (σ.1 21) ≤ x3 then k7 (x2 + (-1)) σ else gix x2 10 (if (rd σ 37 x2) = 0 then k7 (x2 + (-1)) σ else L_M_forces_59 (L_M_forces_36 k7 x1 x2 n) x1 x2 x3 FU (12 * x3) σ)
set_option maxHeartbeats 4000000 in
set_option maxRecDepth 100000 in
theorem w_M_forces_36 (C : Cx g p s m args meth c A 5 cX12_forces yX12_forces.cls) (hr : meth.sig.returnType = none)  {res : Int32 × CS}  (x1 : Int32) (x2 : Int32) {k7 : Int32 → CS → Option (Int32 × CS)} (hk7 : ∀ (x2 : Int32) (σ : CS), k7 x2 σ = some res → NMV g p l e s m args below meth c A 0 0 5 am Rr res σ [(0, .ref (am 112)), (1, .int x1), (2, .int x2)] 7 []) : ∀ (n : Nat) (x3 : Int32) (σ : CS), L_M_forces_36 k7 x1 x2 n x3 σ = some res → NMV g p l e s m args below meth c A 0 0 5 am Rr res σ [(0, .ref (am 112)), (1, .int x1), (2, .int x2), (3, .int x3)] 36 [] := by
  intro n
  induction n with
  | zero =>
    intro x3 σ h
    exact absurd (show (none : Option (Int32 × CS)) = some res from h) (by intro h9; cases h9)
  | succ n ih =>
    intro x3 σ h
    rw [L_M_forces_36] at h
    refine nw_iload_n C dX12_forces_36 rfl 3 rfl ?_
    refine nw_aload_n C dX12_forces_37 rfl 0 rfl ?_
    refine nw_get (v := .int (σ.1 21)) C in_X12 0 ml_O rfl 21 (by decide) tw_1594 rfl mf_21 dX12_forces_38 ?_
    refine nw_icmp_ge (tgt := 125) C dX12_forces_41 (by decide) h (fun _ h => ?_) (fun _ h => ?_)
    · refine nw_iinc (lv' := [(2, .int (x2 + (-1))), (0, .ref (am 112)), (1, .int x1), (3, .int x3)]) C (x2 + (-1)) dX12_forces_125 2 rfl rfl (by decide) rfl ?_
      refine nw_goto (tgt := 7) C dX12_forces_128 (by decide) ?_
      exact nw_lv (lv' := [(0, .ref (am 112)), (1, .int x1), (2, .int (x2 + (-1)))]) [1, 2, 0] rfl (hk7 (x2 + (-1)) _ h)
    · refine nw_aload_n C dX12_forces_44 rfl 0 rfl ?_
      refine nw_get (v := .ref (am 37)) C in_X12 0 ml_O rfl 37 (by decide) tw_1610 rfl mf_37 dX12_forces_45 ?_
      refine nw_iload_n C dX12_forces_48 rfl 2 rfl ?_
      refine nw_zald C 21 ml_37 dX12_forces_49 h (fun h => ?_)
      refine nw_if_eq (tgt := 125) C dX12_forces_50 (by decide) h (fun _ h => ?_) (fun _ h => ?_)
      · refine nw_iinc (lv' := [(2, .int (x2 + (-1))), (0, .ref (am 112)), (1, .int x1), (3, .int x3)]) C (x2 + (-1)) dX12_forces_125 2 rfl rfl (by decide) rfl ?_
        refine nw_goto (tgt := 7) C dX12_forces_128 (by decide) ?_
        exact nw_lv (lv' := [(0, .ref (am 112)), (1, .int x1), (2, .int (x2 + (-1)))]) [1, 2, 0] rfl (hk7 (x2 + (-1)) _ h)
      · refine nw_bipush (v := 12) C dX12_forces_53 (by decide) ?_
        refine nw_iload_n C dX12_forces_55 rfl 3 rfl ?_
        refine nw_imul C dX12_forces_56 ?_
        refine nw_istore (lv' := [(4, .int (12 * x3)), (0, .ref (am 112)), (1, .int x1), (2, .int x2), (3, .int x3)]) C dX12_forces_57 (by decide) rfl ?_
        exact nw_lv (lv' := [(0, .ref (am 112)), (1, .int x1), (2, .int x2), (3, .int x3), (4, .int (12 * x3))]) [1, 2, 3, 4, 0] rfl (w_M_forces_59 C hr x1 x2 x3 ih FU (12 * x3) _ h)
def B_M_forces_31 (k7 : Int32 → CS → Option (Int32 × CS)) (x1 : Int32) (x2 : Int32) (z1 : Int32) (z2 : Int32) (σ : CS) : Option (Int32 × CS) := gix z1 10 (L_M_forces_36 k7 x1 x2 FU (x2 + 1) (wr σ 37 z1 (vp_nar .boolean z2)))
set_option maxHeartbeats 4000000 in
set_option maxRecDepth 100000 in
theorem w_M_forces_31 (C : Cx g p s m args meth c A 5 cX12_forces yX12_forces.cls) (hr : meth.sig.returnType = none)  {res : Int32 × CS}  (x1 : Int32) (x2 : Int32) (z1 : Int32) (z2 : Int32) {k7 : Int32 → CS → Option (Int32 × CS)} (hk7 : ∀ (x2 : Int32) (σ : CS), k7 x2 σ = some res → NMV g p l e s m args below meth c A 0 0 5 am Rr res σ [(0, .ref (am 112)), (1, .int x1), (2, .int x2)] 7 []) (σ : CS) (h : B_M_forces_31 k7 x1 x2 z1 z2 σ = some res) : NMV g p l e s m args below meth c A 0 0 5 am Rr res σ [(0, .ref (am 112)), (1, .int x1), (2, .int x2)] 31 [.int z2, .int z1, .ref (am 37)] := by
  unfold B_M_forces_31 at h
  refine nw_zast C 21 ml_37 dX12_forces_31 h ms_37 (fun h => ?_)
  refine nw_iload_n C dX12_forces_32 rfl 2 rfl ?_
  refine nw_iconst (v := 1) C dX12_forces_33 (by decide) ?_
  refine nw_iadd C dX12_forces_34 ?_
  refine nw_istore_n (lv' := [(3, .int (x2 + 1)), (0, .ref (am 112)), (1, .int x1), (2, .int x2)]) C dX12_forces_35 rfl (by decide) rfl ?_
  exact nw_lv (lv' := [(0, .ref (am 112)), (1, .int x1), (2, .int x2), (3, .int (x2 + 1))]) [1, 2, 3, 0] rfl (w_M_forces_36 C hr x1 x2 hk7 FU (x2 + 1) _ h)
def L_M_forces_7  (x1 : Int32) : Nat → Int32 → CS → Option (Int32 × CS)
  | 0, _, _ => none
  | n + 1, x2, σ => if x2 < 0 then some (0, σ) else gix x2 10 (if x1 < (rd σ 28 x2) then B_M_forces_31 (L_M_forces_7 x1 n) x1 x2 x2 0 σ else B_M_forces_31 (L_M_forces_7 x1 n) x1 x2 x2 1 σ)
set_option maxHeartbeats 4000000 in
set_option maxRecDepth 100000 in
theorem w_M_forces_7 (C : Cx g p s m args meth c A 5 cX12_forces yX12_forces.cls) (hr : meth.sig.returnType = none)  {res : Int32 × CS}  (x1 : Int32)  : ∀ (n : Nat) (x2 : Int32) (σ : CS), L_M_forces_7 x1 n x2 σ = some res → NMV g p l e s m args below meth c A 0 0 5 am Rr res σ [(0, .ref (am 112)), (1, .int x1), (2, .int x2)] 7 [] := by
  intro n
  induction n with
  | zero =>
    intro x2 σ h
    exact absurd (show (none : Option (Int32 × CS)) = some res from h) (by intro h9; cases h9)
  | succ n ih =>
    intro x2 σ h
    rw [L_M_forces_7] at h
    refine nw_iload_n C dX12_forces_7 rfl 2 rfl ?_
    refine nw_if_lt (tgt := 131) C dX12_forces_8 (by decide) h (fun _ h => ?_) (fun _ h => ?_)
    · exact nm_vret C hr dX12_forces_131 h
    · refine nw_aload_n C dX12_forces_11 rfl 0 rfl ?_
      refine nw_get (v := .ref (am 37)) C in_X12 0 ml_O rfl 37 (by decide) tw_1610 rfl mf_37 dX12_forces_12 ?_
      refine nw_iload_n C dX12_forces_15 rfl 2 rfl ?_
      refine nw_aload_n C dX12_forces_16 rfl 0 rfl ?_
      refine nw_get (v := .ref (am 28)) C in_X12 0 ml_O rfl 28 (by decide) tw_1601 rfl mf_28 dX12_forces_17 ?_
      refine nw_iload_n C dX12_forces_20 rfl 2 rfl ?_
      refine nw_iald C 12 ml_28 dX12_forces_21 h (fun h => ?_)
      refine nw_iload_n C dX12_forces_22 rfl 1 rfl ?_
      refine nw_icmp_gt (tgt := 30) C dX12_forces_23 (by decide) h (fun _ h => ?_) (fun _ h => ?_)
      · refine nw_iconst (v := 0) C dX12_forces_30 (by decide) ?_
        exact nw_lv (lv' := [(0, .ref (am 112)), (1, .int x1), (2, .int x2)]) [0, 1, 2] rfl (w_M_forces_31 C hr x1 x2 x2 0 ih _ h)
      · refine nw_iconst (v := 1) C dX12_forces_26 (by decide) ?_
        refine nw_goto (tgt := 31) C dX12_forces_27 (by decide) ?_
        exact nw_lv (lv' := [(0, .ref (am 112)), (1, .int x1), (2, .int x2)]) [0, 1, 2] rfl (w_M_forces_31 C hr x1 x2 x2 1 ih _ h)
def f_M_forces (p0 : Int32) (σ : CS) : Option (Int32 × CS) := L_M_forces_7 p0 FU ((σ.1 21) - 1) σ
set_option maxHeartbeats 4000000 in
set_option maxRecDepth 100000 in
theorem c_M_forces {l : Launch} {g : EG} {am : Nat → Nat} {Rr : va_W} {σ σ' : CS} {r : Int32} {p0 : Int32}  (h : f_M_forces p0 σ = some (r, σ')) : CmV l g yX12_forces (.code yX12_forces cX12_forces 5 none) 0 0 am Rr σ [.ref (am 112), .int p0] r σ' := by
  refine Ct.of rfl (by decide) (Nat.le_of_ble_eq_true rfl) ?_
  intro p e s m args below meth c A C hr
  show NMV g p l e s m args below meth c A 0 0 5 am Rr (r, σ') σ [(0, .ref (am 112)), (1, .int p0)] 0 []
  unfold f_M_forces at h
  refine nw_aload_n C dX12_forces_0 rfl 0 rfl ?_
  refine nw_get (v := .int (σ.1 21)) C in_X12 0 ml_O rfl 21 (by decide) tw_1594 rfl mf_21 dX12_forces_1 ?_
  refine nw_iconst (v := 1) C dX12_forces_4 (by decide) ?_
  refine nw_isub C dX12_forces_5 ?_
  refine nw_istore_n (lv' := [(2, .int ((σ.1 21) - 1)), (0, .ref (am 112)), (1, .int p0)]) C dX12_forces_6 rfl (by decide) rfl ?_
  exact nw_lv (lv' := [(0, .ref (am 112)), (1, .int p0), (2, .int ((σ.1 21) - 1))]) [1, 2, 0] rfl (w_M_forces_7 C hr p0 FU ((σ.1 21) - 1) _ h)
theorem dX12_isText_0 : decode cX12_isText 0 = .ok (.iload_n 1, 1) := by decide +kernel
theorem dX12_isText_1 : decode cX12_isText 1 = .ok (.iconst 0, 1) := by decide +kernel
theorem dX12_isText_2 : decode cX12_isText 2 = .ok (.aload_n 0, 1) := by decide +kernel
theorem dX12_isText_3 : decode cX12_isText 3 = .ok (.getfield 422, 3) := by decide +kernel
theorem dX12_isText_6 : decode cX12_isText 6 = .ok (.iconst 1, 1) := by decide +kernel
theorem dX12_isText_7 : decode cX12_isText 7 = .ok (.isub, 1) := by decide +kernel
theorem dX12_isText_8 : decode cX12_isText 8 = .ok (.invokestatic 257, 3) := by decide +kernel
theorem dX12_isText_11 : decode cX12_isText 11 = .ok (.ireturn, 1) := by decide +kernel
def f_M_isText (p0 : Int32) (σ : CS) : Option (Int32 × CS) := bnd (f_M_in p0 0 ((σ.1 21) - 1) σ) (fun r8 σ8 => grd (r8 = 0 ∨ r8 = 1) (some (r8, σ8)))
set_option maxHeartbeats 4000000 in
set_option maxRecDepth 100000 in
theorem c_M_isText {l : Launch} {g : EG} {am : Nat → Nat} {Rr : va_W} {σ σ' : CS} {r : Int32} {p0 : Int32}  (h : f_M_isText p0 σ = some (r, σ')) : CmI l g yX12_isText (.code yX12_isText cX12_isText 2 (some .boolean)) 1 22 am Rr σ [.ref (am 112), .int p0] r σ' := by
  refine Ct.of rfl (by decide) (Nat.le_of_ble_eq_true rfl) ?_
  intro p e s m args below meth c A C hr
  show NMI g p l e s m args below meth c A 1 22 2 am Rr (r, σ') σ [(0, .ref (am 112)), (1, .int p0)] 0 []
  unfold f_M_isText at h
  refine nw_iload_n C dX12_isText_0 rfl 1 rfl ?_
  refine nw_iconst (v := 0) C dX12_isText_1 (by decide) ?_
  refine nw_aload_n C dX12_isText_2 rfl 0 rfl ?_
  refine nw_get (v := .int (σ.1 21)) C in_X12 0 ml_O rfl 21 (by decide) tw_1594 rfl mf_21 dX12_isText_3 ?_
  refine nw_iconst (v := 1) C dX12_isText_6 (by decide) ?_
  refine nw_isub C dX12_isText_7 ?_
  refine nm_callSI  (As := [.int p0, .int 0, .int ((σ.1 21) - 1)]) (rest := []) C h (fun _ _ e => c_M_in e) tw_1918 ks_X12_in ⟨Nat.le_of_ble_eq_true rfl, Nat.le_of_ble_eq_true rfl⟩ rfl dX12_isText_8 rfl (Nat.le_of_ble_eq_true rfl) (fun r8 σ8 h => ?_)
  exact nm_zretg C hr dX12_isText_11 h
theorem dX12_force_0 : decode cX12_force 0 = .ok (.aload_n 0, 1) := by decide +kernel
theorem dX12_force_1 : decode cX12_force 1 = .ok (.iconst 0, 1) := by decide +kernel
theorem dX12_force_2 : decode cX12_force 2 = .ok (.putfield 253, 3) := by decide +kernel
theorem dX12_force_5 : decode cX12_force 5 = .ok (.aload_n 0, 1) := by decide +kernel
theorem dX12_force_6 : decode cX12_force 6 = .ok (.aload_n 0, 1) := by decide +kernel
theorem dX12_force_7 : decode cX12_force 7 = .ok (.iload_n 1, 1) := by decide +kernel
theorem dX12_force_8 : decode cX12_force 8 = .ok (.invokevirtual 494, 3) := by decide +kernel
theorem dX12_force_11 : decode cX12_force 11 = .ok (.ifCond .ne 7, 3) := by decide +kernel
theorem dX12_force_14 : decode cX12_force 14 = .ok (.iconst 1, 1) := by decide +kernel
theorem dX12_force_15 : decode cX12_force 15 = .ok (.goto 4, 3) := by decide +kernel
theorem dX12_force_18 : decode cX12_force 18 = .ok (.iconst 0, 1) := by decide +kernel
theorem dX12_force_19 : decode cX12_force 19 = .ok (.iconst 1, 1) := by decide +kernel
theorem dX12_force_20 : decode cX12_force 20 = .ok (.invokevirtual 265, 3) := by decide +kernel
theorem dX12_force_23 : decode cX12_force 23 = .ok (.ifCond .ne 23, 3) := by decide +kernel
theorem dX12_force_26 : decode cX12_force 26 = .ok (.aload_n 0, 1) := by decide +kernel
theorem dX12_force_27 : decode cX12_force 27 = .ok (.iload_n 2, 1) := by decide +kernel
theorem dX12_force_28 : decode cX12_force 28 = .ok (.invokestatic 298, 3) := by decide +kernel
theorem dX12_force_31 : decode cX12_force 31 = .ok (.ifCond .ne 7, 3) := by decide +kernel
theorem dX12_force_34 : decode cX12_force 34 = .ok (.iconst 1, 1) := by decide +kernel
theorem dX12_force_35 : decode cX12_force 35 = .ok (.goto 4, 3) := by decide +kernel
theorem dX12_force_38 : decode cX12_force 38 = .ok (.iconst 0, 1) := by decide +kernel
theorem dX12_force_39 : decode cX12_force 39 = .ok (.iconst 2, 1) := by decide +kernel
theorem dX12_force_40 : decode cX12_force 40 = .ok (.invokevirtual 265, 3) := by decide +kernel
theorem dX12_force_43 : decode cX12_force 43 = .ok (.ifCond .eq 5, 3) := by decide +kernel
theorem dX12_force_46 : decode cX12_force 46 = .ok (.iconst 0, 1) := by decide +kernel
theorem dX12_force_47 : decode cX12_force 47 = .ok (.ireturn, 1) := by decide +kernel
theorem dX12_force_48 : decode cX12_force 48 = .ok (.aload_n 0, 1) := by decide +kernel
theorem dX12_force_49 : decode cX12_force 49 = .ok (.iload_n 2, 1) := by decide +kernel
theorem dX12_force_50 : decode cX12_force 50 = .ok (.invokevirtual 497, 3) := by decide +kernel
theorem dX12_force_53 : decode cX12_force 53 = .ok (.aload_n 0, 1) := by decide +kernel
theorem dX12_force_54 : decode cX12_force 54 = .ok (.getfield 75, 3) := by decide +kernel
theorem dX12_force_57 : decode cX12_force 57 = .ok (.iload_n 1, 1) := by decide +kernel
theorem dX12_force_58 : decode cX12_force 58 = .ok (.baload, 1) := by decide +kernel
theorem dX12_force_59 : decode cX12_force 59 = .ok (.ireturn, 1) := by decide +kernel
def B_M_force_39   (x1 : Int32) (x2 : Int32) (z1 : Int32) (σ : CS) : Option (Int32 × CS) := bnd (f_M_bad z1 2 σ) (fun r40 σ40 => if r40 = 0 then bnd (f_M_forces x2 σ40) (fun _ σ50 => gix x1 10 (grd ((rd σ50 37 x1) = 0 ∨ (rd σ50 37 x1) = 1) (some ((rd σ50 37 x1), σ50)))) else some (0, σ40))
set_option maxHeartbeats 4000000 in
set_option maxRecDepth 100000 in
theorem w_M_force_39 (C : Cx g p s m args meth c A 3 cX12_force yX12_force.cls) (hr : meth.sig.returnType = (some .boolean))  {res : Int32 × CS}   (x1 : Int32) (x2 : Int32) (z1 : Int32)  (σ : CS) (h : B_M_force_39 x1 x2 z1 σ = some res) : NMI g p l e s m args below meth c A 2 43 3 am Rr res σ [(0, .ref (am 112)), (1, .int x1), (2, .int x2)] 39 [.int z1, .ref (am 112)] := by
  unfold B_M_force_39 at h
  refine nw_iconst (v := 2) C dX12_force_39 (by decide) ?_
  refine nm_callVI (q0 := 0) (As := [.int z1, .int 2]) (rest := []) C h (fun _ _ e => c_M_bad e) tw_1924 kv_X12_bad ml_O rfl ⟨Nat.le_of_ble_eq_true rfl, Nat.le_of_ble_eq_true rfl⟩ rfl dX12_force_40 rfl (Nat.le_of_ble_eq_true rfl) (fun r40 σ40 h => ?_)
  refine nw_if_eq (tgt := 48) C dX12_force_43 (by decide) h (fun _ h => ?_) (fun _ h => ?_)
  · refine nw_aload_n C dX12_force_48 rfl 0 rfl ?_
    refine nw_iload_n C dX12_force_49 rfl 2 rfl ?_
    refine nm_callVV (q0 := 0) (As := [.int x2]) (rest := []) C h (fun _ _ e => c_M_forces e) tw_2151 kv_X12_forces ml_O rfl ⟨Nat.le_of_ble_eq_true rfl, Nat.le_of_ble_eq_true rfl⟩ rfl dX12_force_50 rfl (Nat.le_of_ble_eq_true rfl) (fun r50 σ50 h => ?_)
    refine nw_aload_n C dX12_force_53 rfl 0 rfl ?_
    refine nw_get (v := .ref (am 37)) C in_X12 0 ml_O rfl 37 (by decide) tw_1610 rfl mf_37 dX12_force_54 ?_
    refine nw_iload_n C dX12_force_57 rfl 1 rfl ?_
    refine nw_zald C 21 ml_37 dX12_force_58 h (fun h => ?_)
    exact nm_zretg C hr dX12_force_59 h
  · refine nw_iconst (v := 0) C dX12_force_46 (by decide) ?_
    exact nm_zret C hr (Or.inl rfl) dX12_force_47 h
def B_M_force_19   (x1 : Int32) (x2 : Int32) (z1 : Int32) (σ : CS) : Option (Int32 × CS) := bnd (f_M_bad z1 1 σ) (fun r20 σ20 => if r20 = 0 then bnd (f_M_isDay x2 σ20) (fun r28 σ28 => if r28 = 0 then B_M_force_39 x1 x2 1 σ28 else B_M_force_39 x1 x2 0 σ28) else some (0, σ20))
set_option maxHeartbeats 4000000 in
set_option maxRecDepth 100000 in
theorem w_M_force_19 (C : Cx g p s m args meth c A 3 cX12_force yX12_force.cls) (hr : meth.sig.returnType = (some .boolean))  {res : Int32 × CS}   (x1 : Int32) (x2 : Int32) (z1 : Int32)  (σ : CS) (h : B_M_force_19 x1 x2 z1 σ = some res) : NMI g p l e s m args below meth c A 2 43 3 am Rr res σ [(0, .ref (am 112)), (1, .int x1), (2, .int x2)] 19 [.int z1, .ref (am 112)] := by
  unfold B_M_force_19 at h
  refine nw_iconst (v := 1) C dX12_force_19 (by decide) ?_
  refine nm_callVI (q0 := 0) (As := [.int z1, .int 1]) (rest := []) C h (fun _ _ e => c_M_bad e) tw_1924 kv_X12_bad ml_O rfl ⟨Nat.le_of_ble_eq_true rfl, Nat.le_of_ble_eq_true rfl⟩ rfl dX12_force_20 rfl (Nat.le_of_ble_eq_true rfl) (fun r20 σ20 h => ?_)
  refine nw_if_ne (tgt := 46) C dX12_force_23 (by decide) h (fun _ h => ?_) (fun _ h => ?_)
  · refine nw_aload_n C dX12_force_26 rfl 0 rfl ?_
    refine nw_iload_n C dX12_force_27 rfl 2 rfl ?_
    refine nm_callSI  (As := [.int x2]) (rest := [.ref (am 112)]) C h (fun _ _ e => c_M_isDay e) tw_1936 ks_X12_isDay ⟨Nat.le_of_ble_eq_true rfl, Nat.le_of_ble_eq_true rfl⟩ rfl dX12_force_28 rfl (Nat.le_of_ble_eq_true rfl) (fun r28 σ28 h => ?_)
    refine nw_if_ne (tgt := 38) C dX12_force_31 (by decide) h (fun _ h => ?_) (fun _ h => ?_)
    · refine nw_iconst (v := 1) C dX12_force_34 (by decide) ?_
      refine nw_goto (tgt := 39) C dX12_force_35 (by decide) ?_
      exact nw_lv (lv' := [(0, .ref (am 112)), (1, .int x1), (2, .int x2)]) [0, 1, 2] rfl (w_M_force_39 C hr x1 x2 1 _ h)
    · refine nw_iconst (v := 0) C dX12_force_38 (by decide) ?_
      exact nw_lv (lv' := [(0, .ref (am 112)), (1, .int x1), (2, .int x2)]) [0, 1, 2] rfl (w_M_force_39 C hr x1 x2 0 _ h)
  · refine nw_iconst (v := 0) C dX12_force_46 (by decide) ?_
    exact nm_zret C hr (Or.inl rfl) dX12_force_47 h
def f_M_force (p0 : Int32) (p1 : Int32) (σ : CS) : Option (Int32 × CS) := bnd (f_M_isText p0 (sF σ 0 0)) (fun r8 σ8 => if r8 = 0 then B_M_force_19 p0 p1 1 σ8 else B_M_force_19 p0 p1 0 σ8)
set_option maxHeartbeats 4000000 in
set_option maxRecDepth 100000 in
theorem c_M_force {l : Launch} {g : EG} {am : Nat → Nat} {Rr : va_W} {σ σ' : CS} {r : Int32} {p0 : Int32} {p1 : Int32}  (h : f_M_force p0 p1 σ = some (r, σ')) : CmI l g yX12_force (.code yX12_force cX12_force 3 (some .boolean)) 2 43 am Rr σ [.ref (am 112), .int p0, .int p1] r σ' := by
  refine Ct.of rfl (by decide) (Nat.le_of_ble_eq_true rfl) ?_
  intro p e s m args below meth c A C hr
  show NMI g p l e s m args below meth c A 2 43 3 am Rr (r, σ') σ [(0, .ref (am 112)), (1, .int p0), (2, .int p1)] 0 []
  unfold f_M_force at h
  refine nw_aload_n C dX12_force_0 rfl 0 rfl ?_
  refine nw_iconst (v := 0) C dX12_force_1 (by decide) ?_
  refine nw_put (ty := .int) C in_X12 0 ml_O rfl 0 (by decide) tyX12 tyX12_ok nmX12 tw_1573 rfl rfl (by decide +kernel) rfl rfl (Nat.le_of_ble_eq_true rfl) dX12_force_2 ms_0 ?_
  refine nw_aload_n C dX12_force_5 rfl 0 rfl ?_
  refine nw_aload_n C dX12_force_6 rfl 0 rfl ?_
  refine nw_iload_n C dX12_force_7 rfl 1 rfl ?_
  refine nm_callVI (q0 := 0) (As := [.int p0]) (rest := [.ref (am 112)]) C h (fun _ _ e => c_M_isText e) tw_2147 kv_X12_isText ml_O rfl ⟨Nat.le_of_ble_eq_true rfl, Nat.le_of_ble_eq_true rfl⟩ rfl dX12_force_8 rfl (Nat.le_of_ble_eq_true rfl) (fun r8 σ8 h => ?_)
  refine nw_if_ne (tgt := 18) C dX12_force_11 (by decide) h (fun _ h => ?_) (fun _ h => ?_)
  · refine nw_iconst (v := 1) C dX12_force_14 (by decide) ?_
    refine nw_goto (tgt := 19) C dX12_force_15 (by decide) ?_
    exact nw_lv (lv' := [(0, .ref (am 112)), (1, .int p0), (2, .int p1)]) [0, 1, 2] rfl (w_M_force_19 C hr p0 p1 1 _ h)
  · refine nw_iconst (v := 0) C dX12_force_18 (by decide) ?_
    exact nw_lv (lv' := [(0, .ref (am 112)), (1, .int p0), (2, .int p1)]) [0, 1, 2] rfl (w_M_force_19 C hr p0 p1 0 _ h)
theorem dX12_ruleOf_0 : decode cX12_ruleOf 0 = .ok (.aload_n 0, 1) := by decide +kernel
theorem dX12_ruleOf_1 : decode cX12_ruleOf 1 = .ok (.iload_n 1, 1) := by decide +kernel
theorem dX12_ruleOf_2 : decode cX12_ruleOf 2 = .ok (.invokevirtual 497, 3) := by decide +kernel
theorem dX12_ruleOf_5 : decode cX12_ruleOf 5 = .ok (.iload_n 2, 1) := by decide +kernel
theorem dX12_ruleOf_6 : decode cX12_ruleOf 6 = .ok (.ifCond .ne 8, 3) := by decide +kernel
theorem dX12_ruleOf_9 : decode cX12_ruleOf 9 = .ok (.bipush 40, 2) := by decide +kernel
theorem dX12_ruleOf_11 : decode cX12_ruleOf 11 = .ok (.goto 35, 3) := by decide +kernel
theorem dX12_ruleOf_14 : decode cX12_ruleOf 14 = .ok (.iload_n 2, 1) := by decide +kernel
theorem dX12_ruleOf_15 : decode cX12_ruleOf 15 = .ok (.iconst 1, 1) := by decide +kernel
theorem dX12_ruleOf_16 : decode cX12_ruleOf 16 = .ok (.if_icmp .ne 8, 3) := by decide +kernel
theorem dX12_ruleOf_19 : decode cX12_ruleOf 19 = .ok (.bipush 120, 2) := by decide +kernel
theorem dX12_ruleOf_21 : decode cX12_ruleOf 21 = .ok (.goto 25, 3) := by decide +kernel
theorem dX12_ruleOf_24 : decode cX12_ruleOf 24 = .ok (.iload_n 2, 1) := by decide +kernel
theorem dX12_ruleOf_25 : decode cX12_ruleOf 25 = .ok (.iconst 2, 1) := by decide +kernel
theorem dX12_ruleOf_26 : decode cX12_ruleOf 26 = .ok (.if_icmp .ne 9, 3) := by decide +kernel
theorem dX12_ruleOf_29 : decode cX12_ruleOf 29 = .ok (.sipush 1080, 3) := by decide +kernel
theorem dX12_ruleOf_32 : decode cX12_ruleOf 32 = .ok (.goto 14, 3) := by decide +kernel
theorem dX12_ruleOf_35 : decode cX12_ruleOf 35 = .ok (.iload_n 2, 1) := by decide +kernel
theorem dX12_ruleOf_36 : decode cX12_ruleOf 36 = .ok (.iconst 3, 1) := by decide +kernel
theorem dX12_ruleOf_37 : decode cX12_ruleOf 37 = .ok (.if_icmp .ne 8, 3) := by decide +kernel
theorem dX12_ruleOf_40 : decode cX12_ruleOf 40 = .ok (.bipush 20, 2) := by decide +kernel
theorem dX12_ruleOf_42 : decode cX12_ruleOf 42 = .ok (.goto 4, 3) := by decide +kernel
theorem dX12_ruleOf_45 : decode cX12_ruleOf 45 = .ok (.iconst 1, 1) := by decide +kernel
theorem dX12_ruleOf_46 : decode cX12_ruleOf 46 = .ok (.istore_n 3, 1) := by decide +kernel
theorem dX12_ruleOf_47 : decode cX12_ruleOf 47 = .ok (.iload_n 2, 1) := by decide +kernel
theorem dX12_ruleOf_48 : decode cX12_ruleOf 48 = .ok (.iconst 3, 1) := by decide +kernel
theorem dX12_ruleOf_49 : decode cX12_ruleOf 49 = .ok (.if_icmp .ge 8, 3) := by decide +kernel
theorem dX12_ruleOf_52 : decode cX12_ruleOf 52 = .ok (.bipush 6, 2) := by decide +kernel
theorem dX12_ruleOf_54 : decode cX12_ruleOf 54 = .ok (.goto 14, 3) := by decide +kernel
theorem dX12_ruleOf_57 : decode cX12_ruleOf 57 = .ok (.iload_n 2, 1) := by decide +kernel
theorem dX12_ruleOf_58 : decode cX12_ruleOf 58 = .ok (.iconst 3, 1) := by decide +kernel
theorem dX12_ruleOf_59 : decode cX12_ruleOf 59 = .ok (.if_icmp .ne 8, 3) := by decide +kernel
theorem dX12_ruleOf_62 : decode cX12_ruleOf 62 = .ok (.bipush 7, 2) := by decide +kernel
theorem dX12_ruleOf_64 : decode cX12_ruleOf 64 = .ok (.goto 4, 3) := by decide +kernel
theorem dX12_ruleOf_67 : decode cX12_ruleOf 67 = .ok (.iconst 5, 1) := by decide +kernel
theorem dX12_ruleOf_68 : decode cX12_ruleOf 68 = .ok (.istore 4, 2) := by decide +kernel
theorem dX12_ruleOf_70 : decode cX12_ruleOf 70 = .ok (.iconst 0, 1) := by decide +kernel
theorem dX12_ruleOf_71 : decode cX12_ruleOf 71 = .ok (.istore 5, 2) := by decide +kernel
theorem dX12_ruleOf_73 : decode cX12_ruleOf 73 = .ok (.iload 5, 2) := by decide +kernel
theorem dX12_ruleOf_75 : decode cX12_ruleOf 75 = .ok (.aload_n 0, 1) := by decide +kernel
theorem dX12_ruleOf_76 : decode cX12_ruleOf 76 = .ok (.getfield 422, 3) := by decide +kernel
theorem dX12_ruleOf_79 : decode cX12_ruleOf 79 = .ok (.if_icmp .ge 103, 3) := by decide +kernel
theorem dX12_ruleOf_82 : decode cX12_ruleOf 82 = .ok (.aload_n 0, 1) := by decide +kernel
theorem dX12_ruleOf_83 : decode cX12_ruleOf 83 = .ok (.getfield 75, 3) := by decide +kernel
theorem dX12_ruleOf_86 : decode cX12_ruleOf 86 = .ok (.iload 5, 2) := by decide +kernel
theorem dX12_ruleOf_88 : decode cX12_ruleOf 88 = .ok (.baload, 1) := by decide +kernel
theorem dX12_ruleOf_89 : decode cX12_ruleOf 89 = .ok (.ifCond .ne 6, 3) := by decide +kernel
theorem dX12_ruleOf_92 : decode cX12_ruleOf 92 = .ok (.goto 84, 3) := by decide +kernel
theorem dX12_ruleOf_95 : decode cX12_ruleOf 95 = .ok (.bipush 12, 2) := by decide +kernel
theorem dX12_ruleOf_97 : decode cX12_ruleOf 97 = .ok (.iload 5, 2) := by decide +kernel
theorem dX12_ruleOf_99 : decode cX12_ruleOf 99 = .ok (.imul, 1) := by decide +kernel
theorem dX12_ruleOf_100 : decode cX12_ruleOf 100 = .ok (.istore 6, 2) := by decide +kernel
theorem dX12_ruleOf_102 : decode cX12_ruleOf 102 = .ok (.iload 6, 2) := by decide +kernel
theorem dX12_ruleOf_104 : decode cX12_ruleOf 104 = .ok (.bipush 12, 2) := by decide +kernel
theorem dX12_ruleOf_106 : decode cX12_ruleOf 106 = .ok (.iload 5, 2) := by decide +kernel
theorem dX12_ruleOf_108 : decode cX12_ruleOf 108 = .ok (.imul, 1) := by decide +kernel
theorem dX12_ruleOf_109 : decode cX12_ruleOf 109 = .ok (.aload_n 0, 1) := by decide +kernel
theorem dX12_ruleOf_110 : decode cX12_ruleOf 110 = .ok (.getfield 51, 3) := by decide +kernel
theorem dX12_ruleOf_113 : decode cX12_ruleOf 113 = .ok (.iload 5, 2) := by decide +kernel
theorem dX12_ruleOf_115 : decode cX12_ruleOf 115 = .ok (.iaload, 1) := by decide +kernel
theorem dX12_ruleOf_116 : decode cX12_ruleOf 116 = .ok (.iadd, 1) := by decide +kernel
theorem dX12_ruleOf_117 : decode cX12_ruleOf 117 = .ok (.if_icmp .ge 59, 3) := by decide +kernel
theorem dX12_ruleOf_120 : decode cX12_ruleOf 120 = .ok (.aload_n 0, 1) := by decide +kernel
theorem dX12_ruleOf_121 : decode cX12_ruleOf 121 = .ok (.getfield 54, 3) := by decide +kernel
theorem dX12_ruleOf_124 : decode cX12_ruleOf 124 = .ok (.iload 6, 2) := by decide +kernel
theorem dX12_ruleOf_126 : decode cX12_ruleOf 126 = .ok (.iaload, 1) := by decide +kernel
theorem dX12_ruleOf_127 : decode cX12_ruleOf 127 = .ok (.iload 4, 2) := by decide +kernel
theorem dX12_ruleOf_129 : decode cX12_ruleOf 129 = .ok (.if_icmp .ne 41, 3) := by decide +kernel
theorem dX12_ruleOf_132 : decode cX12_ruleOf 132 = .ok (.iload_n 2, 1) := by decide +kernel
theorem dX12_ruleOf_133 : decode cX12_ruleOf 133 = .ok (.iconst 1, 1) := by decide +kernel
theorem dX12_ruleOf_134 : decode cX12_ruleOf 134 = .ok (.if_icmp .ne 13, 3) := by decide +kernel
theorem dX12_ruleOf_137 : decode cX12_ruleOf 137 = .ok (.aload_n 0, 1) := by decide +kernel
theorem dX12_ruleOf_138 : decode cX12_ruleOf 138 = .ok (.getfield 63, 3) := by decide +kernel
theorem dX12_ruleOf_141 : decode cX12_ruleOf 141 = .ok (.iload 6, 2) := by decide +kernel
theorem dX12_ruleOf_143 : decode cX12_ruleOf 143 = .ok (.iaload, 1) := by decide +kernel
theorem dX12_ruleOf_144 : decode cX12_ruleOf 144 = .ok (.goto 25, 3) := by decide +kernel
theorem dX12_ruleOf_147 : decode cX12_ruleOf 147 = .ok (.iload_n 2, 1) := by decide +kernel
theorem dX12_ruleOf_148 : decode cX12_ruleOf 148 = .ok (.iconst 2, 1) := by decide +kernel
theorem dX12_ruleOf_149 : decode cX12_ruleOf 149 = .ok (.if_icmp .ne 13, 3) := by decide +kernel
theorem dX12_ruleOf_152 : decode cX12_ruleOf 152 = .ok (.aload_n 0, 1) := by decide +kernel
theorem dX12_ruleOf_153 : decode cX12_ruleOf 153 = .ok (.getfield 66, 3) := by decide +kernel
theorem dX12_ruleOf_156 : decode cX12_ruleOf 156 = .ok (.iload 6, 2) := by decide +kernel
theorem dX12_ruleOf_158 : decode cX12_ruleOf 158 = .ok (.iaload, 1) := by decide +kernel
theorem dX12_ruleOf_159 : decode cX12_ruleOf 159 = .ok (.goto 10, 3) := by decide +kernel
theorem dX12_ruleOf_162 : decode cX12_ruleOf 162 = .ok (.aload_n 0, 1) := by decide +kernel
theorem dX12_ruleOf_163 : decode cX12_ruleOf 163 = .ok (.getfield 57, 3) := by decide +kernel
theorem dX12_ruleOf_166 : decode cX12_ruleOf 166 = .ok (.iload 6, 2) := by decide +kernel
theorem dX12_ruleOf_168 : decode cX12_ruleOf 168 = .ok (.iaload, 1) := by decide +kernel
theorem dX12_ruleOf_169 : decode cX12_ruleOf 169 = .ok (.istore_n 3, 1) := by decide +kernel
theorem dX12_ruleOf_170 : decode cX12_ruleOf 170 = .ok (.iinc 6 1, 3) := by decide +kernel
theorem dX12_ruleOf_173 : decode cX12_ruleOf 173 = .ok (.goto (-71), 3) := by decide +kernel
theorem dX12_ruleOf_176 : decode cX12_ruleOf 176 = .ok (.iinc 5 1, 3) := by decide +kernel
theorem dX12_ruleOf_179 : decode cX12_ruleOf 179 = .ok (.goto (-106), 3) := by decide +kernel
theorem dX12_ruleOf_182 : decode cX12_ruleOf 182 = .ok (.iload_n 3, 1) := by decide +kernel
theorem dX12_ruleOf_183 : decode cX12_ruleOf 183 = .ok (.ireturn, 1) := by decide +kernel
def L_M_ruleOf_102 (k73 : Int32 → Int32 → CS → Option (Int32 × CS)) (x2 : Int32) (x4 : Int32) (x5 : Int32) : Nat → Int32 → Int32 → CS → Option (Int32 × CS)
  | 0, _, _, _ => none
  | n + 1, x3, x6, σ => gix x5 10 (if ((12 * x5) + (rd σ 29 x5)) ≤ x6 then k73 x3 (x5 + 1) σ else gix x6 120 (if (rd σ 30 x6) = x4 then if x2 = 1 then gix x6 120 ((L_M_ruleOf_102 k73 x2 x4 x5 n) (rd σ 33 x6) (x6 + 1) σ) else if x2 = 2 then gix x6 120 ((L_M_ruleOf_102 k73 x2 x4 x5 n) (rd σ 34 x6) (x6 + 1) σ) else gix x6 120 ((L_M_ruleOf_102 k73 x2 x4 x5 n) (rd σ 31 x6) (x6 + 1) σ) else (L_M_ruleOf_102 k73 x2 x4 x5 n) x3 (x6 + 1) σ))
set_option maxHeartbeats 4000000 in
set_option maxRecDepth 100000 in
theorem w_M_ruleOf_102 (C : Cx g p s m args meth c A 7 cX12_ruleOf yX12_ruleOf.cls) (hr : meth.sig.returnType = (some .int))  {res : Int32 × CS}  (x2 : Int32) (x4 : Int32) (x5 : Int32) {k73 : Int32 → Int32 → CS → Option (Int32 × CS)} (hk73 : ∀ (x3 : Int32) (x5 : Int32) (σ : CS), k73 x3 x5 σ = some res → NMI g p l e s m args below meth c A 1 24 7 am Rr res σ [(0, .ref (am 112)), (2, .int x2), (3, .int x3), (4, .int x4), (5, .int x5)] 73 []) : ∀ (n : Nat) (x3 : Int32) (x6 : Int32) (σ : CS), L_M_ruleOf_102 k73 x2 x4 x5 n x3 x6 σ = some res → NMI g p l e s m args below meth c A 1 24 7 am Rr res σ [(0, .ref (am 112)), (2, .int x2), (3, .int x3), (4, .int x4), (5, .int x5), (6, .int x6)] 102 [] := by
  intro n
  induction n with
  | zero =>
    intro x3 x6 σ h
    exact absurd (show (none : Option (Int32 × CS)) = some res from h) (by intro h9; cases h9)
  | succ n ih =>
    intro x3 x6 σ h
    rw [L_M_ruleOf_102] at h
    refine nw_iload C dX12_ruleOf_102 5 rfl ?_
    refine nw_bipush (v := 12) C dX12_ruleOf_104 (by decide) ?_
    refine nw_iload C dX12_ruleOf_106 4 rfl ?_
    refine nw_imul C dX12_ruleOf_108 ?_
    refine nw_aload_n C dX12_ruleOf_109 rfl 0 rfl ?_
    refine nw_get (v := .ref (am 29)) C in_X12 0 ml_O rfl 29 (by decide) tw_1602 rfl mf_29 dX12_ruleOf_110 ?_
    refine nw_iload C dX12_ruleOf_113 4 rfl ?_
    refine nw_iald C 13 ml_29 dX12_ruleOf_115 h (fun h => ?_)
    refine nw_iadd C dX12_ruleOf_116 ?_
    refine nw_icmp_ge (tgt := 176) C dX12_ruleOf_117 (by decide) h (fun _ h => ?_) (fun _ h => ?_)
    · refine nw_iinc (lv' := [(5, .int (x5 + 1)), (0, .ref (am 112)), (2, .int x2), (3, .int x3), (4, .int x4), (6, .int x6)]) C (x5 + 1) dX12_ruleOf_176 4 rfl rfl (by decide) rfl ?_
      refine nw_goto (tgt := 73) C dX12_ruleOf_179 (by decide) ?_
      exact nw_lv (lv' := [(0, .ref (am 112)), (2, .int x2), (3, .int x3), (4, .int x4), (5, .int (x5 + 1))]) [1, 2, 3, 4, 0] rfl (hk73 x3 (x5 + 1) _ h)
    · refine nw_aload_n C dX12_ruleOf_120 rfl 0 rfl ?_
      refine nw_get (v := .ref (am 30)) C in_X12 0 ml_O rfl 30 (by decide) tw_1603 rfl mf_30 dX12_ruleOf_121 ?_
      refine nw_iload C dX12_ruleOf_124 5 rfl ?_
      refine nw_iald C 14 ml_30 dX12_ruleOf_126 h (fun h => ?_)
      refine nw_iload C dX12_ruleOf_127 3 rfl ?_
      refine nw_icmp_ne (tgt := 170) C dX12_ruleOf_129 (by decide) h (fun _ h => ?_) (fun _ h => ?_)
      · refine nw_iload_n C dX12_ruleOf_132 rfl 1 rfl ?_
        refine nw_iconst (v := 1) C dX12_ruleOf_133 (by decide) ?_
        refine nw_icmp_ne (tgt := 147) C dX12_ruleOf_134 (by decide) h (fun _ h => ?_) (fun _ h => ?_)
        · refine nw_aload_n C dX12_ruleOf_137 rfl 0 rfl ?_
          refine nw_get (v := .ref (am 33)) C in_X12 0 ml_O rfl 33 (by decide) tw_1606 rfl mf_33 dX12_ruleOf_138 ?_
          refine nw_iload C dX12_ruleOf_141 5 rfl ?_
          refine nw_iald C 17 ml_33 dX12_ruleOf_143 h (fun h => ?_)
          refine nw_goto (tgt := 169) C dX12_ruleOf_144 (by decide) ?_
          refine nw_istore_n (lv' := [(3, .int (rd σ 33 x6)), (0, .ref (am 112)), (2, .int x2), (4, .int x4), (5, .int x5), (6, .int x6)]) C dX12_ruleOf_169 rfl (by decide) rfl ?_
          refine nw_iinc (lv' := [(6, .int (x6 + 1)), (3, .int (rd σ 33 x6)), (0, .ref (am 112)), (2, .int x2), (4, .int x4), (5, .int x5)]) C (x6 + 1) dX12_ruleOf_170 5 rfl rfl (by decide) rfl ?_
          refine nw_goto (tgt := 102) C dX12_ruleOf_173 (by decide) ?_
          exact nw_lv (lv' := [(0, .ref (am 112)), (2, .int x2), (3, .int (rd σ 33 x6)), (4, .int x4), (5, .int x5), (6, .int (x6 + 1))]) [2, 3, 1, 4, 5, 0] rfl (ih (rd σ 33 x6) (x6 + 1) _ h)
        · refine nw_iload_n C dX12_ruleOf_147 rfl 1 rfl ?_
          refine nw_iconst (v := 2) C dX12_ruleOf_148 (by decide) ?_
          refine nw_icmp_ne (tgt := 162) C dX12_ruleOf_149 (by decide) h (fun _ h => ?_) (fun _ h => ?_)
          · refine nw_aload_n C dX12_ruleOf_152 rfl 0 rfl ?_
            refine nw_get (v := .ref (am 34)) C in_X12 0 ml_O rfl 34 (by decide) tw_1607 rfl mf_34 dX12_ruleOf_153 ?_
            refine nw_iload C dX12_ruleOf_156 5 rfl ?_
            refine nw_iald C 18 ml_34 dX12_ruleOf_158 h (fun h => ?_)
            refine nw_goto (tgt := 169) C dX12_ruleOf_159 (by decide) ?_
            refine nw_istore_n (lv' := [(3, .int (rd σ 34 x6)), (0, .ref (am 112)), (2, .int x2), (4, .int x4), (5, .int x5), (6, .int x6)]) C dX12_ruleOf_169 rfl (by decide) rfl ?_
            refine nw_iinc (lv' := [(6, .int (x6 + 1)), (3, .int (rd σ 34 x6)), (0, .ref (am 112)), (2, .int x2), (4, .int x4), (5, .int x5)]) C (x6 + 1) dX12_ruleOf_170 5 rfl rfl (by decide) rfl ?_
            refine nw_goto (tgt := 102) C dX12_ruleOf_173 (by decide) ?_
            exact nw_lv (lv' := [(0, .ref (am 112)), (2, .int x2), (3, .int (rd σ 34 x6)), (4, .int x4), (5, .int x5), (6, .int (x6 + 1))]) [2, 3, 1, 4, 5, 0] rfl (ih (rd σ 34 x6) (x6 + 1) _ h)
          · refine nw_aload_n C dX12_ruleOf_162 rfl 0 rfl ?_
            refine nw_get (v := .ref (am 31)) C in_X12 0 ml_O rfl 31 (by decide) tw_1604 rfl mf_31 dX12_ruleOf_163 ?_
            refine nw_iload C dX12_ruleOf_166 5 rfl ?_
            refine nw_iald C 15 ml_31 dX12_ruleOf_168 h (fun h => ?_)
            refine nw_istore_n (lv' := [(3, .int (rd σ 31 x6)), (0, .ref (am 112)), (2, .int x2), (4, .int x4), (5, .int x5), (6, .int x6)]) C dX12_ruleOf_169 rfl (by decide) rfl ?_
            refine nw_iinc (lv' := [(6, .int (x6 + 1)), (3, .int (rd σ 31 x6)), (0, .ref (am 112)), (2, .int x2), (4, .int x4), (5, .int x5)]) C (x6 + 1) dX12_ruleOf_170 5 rfl rfl (by decide) rfl ?_
            refine nw_goto (tgt := 102) C dX12_ruleOf_173 (by decide) ?_
            exact nw_lv (lv' := [(0, .ref (am 112)), (2, .int x2), (3, .int (rd σ 31 x6)), (4, .int x4), (5, .int x5), (6, .int (x6 + 1))]) [2, 3, 1, 4, 5, 0] rfl (ih (rd σ 31 x6) (x6 + 1) _ h)
      · refine nw_iinc (lv' := [(6, .int (x6 + 1)), (0, .ref (am 112)), (2, .int x2), (3, .int x3), (4, .int x4), (5, .int x5)]) C (x6 + 1) dX12_ruleOf_170 5 rfl rfl (by decide) rfl ?_
        refine nw_goto (tgt := 102) C dX12_ruleOf_173 (by decide) ?_
        exact nw_lv (lv' := [(0, .ref (am 112)), (2, .int x2), (3, .int x3), (4, .int x4), (5, .int x5), (6, .int (x6 + 1))]) [1, 2, 3, 4, 5, 0] rfl (ih x3 (x6 + 1) _ h)
def L_M_ruleOf_73  (x2 : Int32) (x4 : Int32) : Nat → Int32 → Int32 → CS → Option (Int32 × CS)
  | 0, _, _, _ => none
  | n + 1, x3, x5, σ => if (σ.1 21) ≤ x5 then some (x3, σ) else gix x5 10 (if (rd σ 37 x5) = 0 then (L_M_ruleOf_73 x2 x4 n) x3 (x5 + 1) σ else L_M_ruleOf_102 (L_M_ruleOf_73 x2 x4 n) x2 x4 x5 FU x3 (12 * x5) σ)
set_option maxHeartbeats 4000000 in
set_option maxRecDepth 100000 in
theorem w_M_ruleOf_73 (C : Cx g p s m args meth c A 7 cX12_ruleOf yX12_ruleOf.cls) (hr : meth.sig.returnType = (some .int))  {res : Int32 × CS}  (x2 : Int32) (x4 : Int32)  : ∀ (n : Nat) (x3 : Int32) (x5 : Int32) (σ : CS), L_M_ruleOf_73 x2 x4 n x3 x5 σ = some res → NMI g p l e s m args below meth c A 1 24 7 am Rr res σ [(0, .ref (am 112)), (2, .int x2), (3, .int x3), (4, .int x4), (5, .int x5)] 73 [] := by
  intro n
  induction n with
  | zero =>
    intro x3 x5 σ h
    exact absurd (show (none : Option (Int32 × CS)) = some res from h) (by intro h9; cases h9)
  | succ n ih =>
    intro x3 x5 σ h
    rw [L_M_ruleOf_73] at h
    refine nw_iload C dX12_ruleOf_73 4 rfl ?_
    refine nw_aload_n C dX12_ruleOf_75 rfl 0 rfl ?_
    refine nw_get (v := .int (σ.1 21)) C in_X12 0 ml_O rfl 21 (by decide) tw_1594 rfl mf_21 dX12_ruleOf_76 ?_
    refine nw_icmp_ge (tgt := 182) C dX12_ruleOf_79 (by decide) h (fun _ h => ?_) (fun _ h => ?_)
    · refine nw_iload_n C dX12_ruleOf_182 rfl 2 rfl ?_
      exact nm_iret C hr dX12_ruleOf_183 h
    · refine nw_aload_n C dX12_ruleOf_82 rfl 0 rfl ?_
      refine nw_get (v := .ref (am 37)) C in_X12 0 ml_O rfl 37 (by decide) tw_1610 rfl mf_37 dX12_ruleOf_83 ?_
      refine nw_iload C dX12_ruleOf_86 4 rfl ?_
      refine nw_zald C 21 ml_37 dX12_ruleOf_88 h (fun h => ?_)
      refine nw_if_ne (tgt := 95) C dX12_ruleOf_89 (by decide) h (fun _ h => ?_) (fun _ h => ?_)
      · refine nw_goto (tgt := 176) C dX12_ruleOf_92 (by decide) ?_
        refine nw_iinc (lv' := [(5, .int (x5 + 1)), (0, .ref (am 112)), (2, .int x2), (3, .int x3), (4, .int x4)]) C (x5 + 1) dX12_ruleOf_176 4 rfl rfl (by decide) rfl ?_
        refine nw_goto (tgt := 73) C dX12_ruleOf_179 (by decide) ?_
        exact nw_lv (lv' := [(0, .ref (am 112)), (2, .int x2), (3, .int x3), (4, .int x4), (5, .int (x5 + 1))]) [1, 2, 3, 4, 0] rfl (ih x3 (x5 + 1) _ h)
      · refine nw_bipush (v := 12) C dX12_ruleOf_95 (by decide) ?_
        refine nw_iload C dX12_ruleOf_97 4 rfl ?_
        refine nw_imul C dX12_ruleOf_99 ?_
        refine nw_istore (lv' := [(6, .int (12 * x5)), (0, .ref (am 112)), (2, .int x2), (3, .int x3), (4, .int x4), (5, .int x5)]) C dX12_ruleOf_100 (by decide) rfl ?_
        exact nw_lv (lv' := [(0, .ref (am 112)), (2, .int x2), (3, .int x3), (4, .int x4), (5, .int x5), (6, .int (12 * x5))]) [1, 2, 3, 4, 5, 0] rfl (w_M_ruleOf_102 C hr x2 x4 x5 ih FU x3 (12 * x5) _ h)
def B_M_ruleOf_46   (x2 : Int32) (z0 : Int32) (σ : CS) : Option (Int32 × CS) := if 3 ≤ x2 then if x2 = 3 then L_M_ruleOf_73 x2 7 FU z0 0 σ else L_M_ruleOf_73 x2 5 FU z0 0 σ else L_M_ruleOf_73 x2 6 FU z0 0 σ
set_option maxHeartbeats 4000000 in
set_option maxRecDepth 100000 in
theorem w_M_ruleOf_46 (C : Cx g p s m args meth c A 7 cX12_ruleOf yX12_ruleOf.cls) (hr : meth.sig.returnType = (some .int))  {res : Int32 × CS}   (x2 : Int32) (z0 : Int32)  (σ : CS) (h : B_M_ruleOf_46 x2 z0 σ = some res) : NMI g p l e s m args below meth c A 1 24 7 am Rr res σ [(0, .ref (am 112)), (2, .int x2)] 46 [.int z0] := by
  unfold B_M_ruleOf_46 at h
  refine nw_istore_n (lv' := [(3, .int z0), (0, .ref (am 112)), (2, .int x2)]) C dX12_ruleOf_46 rfl (by decide) rfl ?_
  refine nw_iload_n C dX12_ruleOf_47 rfl 2 rfl ?_
  refine nw_iconst (v := 3) C dX12_ruleOf_48 (by decide) ?_
  refine nw_icmp_ge (tgt := 57) C dX12_ruleOf_49 (by decide) h (fun _ h => ?_) (fun _ h => ?_)
  · refine nw_iload_n C dX12_ruleOf_57 rfl 2 rfl ?_
    refine nw_iconst (v := 3) C dX12_ruleOf_58 (by decide) ?_
    refine nw_icmp_ne (tgt := 67) C dX12_ruleOf_59 (by decide) h (fun _ h => ?_) (fun _ h => ?_)
    · refine nw_bipush (v := 7) C dX12_ruleOf_62 (by decide) ?_
      refine nw_goto (tgt := 68) C dX12_ruleOf_64 (by decide) ?_
      refine nw_istore (lv' := [(4, .int 7), (3, .int z0), (0, .ref (am 112)), (2, .int x2)]) C dX12_ruleOf_68 (by decide) rfl ?_
      refine nw_iconst (v := 0) C dX12_ruleOf_70 (by decide) ?_
      refine nw_istore (lv' := [(5, .int 0), (4, .int 7), (3, .int z0), (0, .ref (am 112)), (2, .int x2)]) C dX12_ruleOf_71 (by decide) rfl ?_
      exact nw_lv (lv' := [(0, .ref (am 112)), (2, .int x2), (3, .int z0), (4, .int 7), (5, .int 0)]) [3, 4, 2, 1, 0] rfl (w_M_ruleOf_73 C hr x2 7 FU z0 0 _ h)
    · refine nw_iconst (v := 5) C dX12_ruleOf_67 (by decide) ?_
      refine nw_istore (lv' := [(4, .int 5), (3, .int z0), (0, .ref (am 112)), (2, .int x2)]) C dX12_ruleOf_68 (by decide) rfl ?_
      refine nw_iconst (v := 0) C dX12_ruleOf_70 (by decide) ?_
      refine nw_istore (lv' := [(5, .int 0), (4, .int 5), (3, .int z0), (0, .ref (am 112)), (2, .int x2)]) C dX12_ruleOf_71 (by decide) rfl ?_
      exact nw_lv (lv' := [(0, .ref (am 112)), (2, .int x2), (3, .int z0), (4, .int 5), (5, .int 0)]) [3, 4, 2, 1, 0] rfl (w_M_ruleOf_73 C hr x2 5 FU z0 0 _ h)
  · refine nw_bipush (v := 6) C dX12_ruleOf_52 (by decide) ?_
    refine nw_goto (tgt := 68) C dX12_ruleOf_54 (by decide) ?_
    refine nw_istore (lv' := [(4, .int 6), (3, .int z0), (0, .ref (am 112)), (2, .int x2)]) C dX12_ruleOf_68 (by decide) rfl ?_
    refine nw_iconst (v := 0) C dX12_ruleOf_70 (by decide) ?_
    refine nw_istore (lv' := [(5, .int 0), (4, .int 6), (3, .int z0), (0, .ref (am 112)), (2, .int x2)]) C dX12_ruleOf_71 (by decide) rfl ?_
    exact nw_lv (lv' := [(0, .ref (am 112)), (2, .int x2), (3, .int z0), (4, .int 6), (5, .int 0)]) [3, 4, 2, 1, 0] rfl (w_M_ruleOf_73 C hr x2 6 FU z0 0 _ h)
def f_M_ruleOf (p0 : Int32) (p1 : Int32) (σ : CS) : Option (Int32 × CS) := bnd (f_M_forces p0 σ) (fun _ σ2 => if p1 = 0 then B_M_ruleOf_46 p1 40 σ2 else if p1 = 1 then B_M_ruleOf_46 p1 120 σ2 else if p1 = 2 then B_M_ruleOf_46 p1 1080 σ2 else if p1 = 3 then B_M_ruleOf_46 p1 20 σ2 else B_M_ruleOf_46 p1 1 σ2)
set_option maxHeartbeats 4000000 in
set_option maxRecDepth 100000 in
theorem c_M_ruleOf {l : Launch} {g : EG} {am : Nat → Nat} {Rr : va_W} {σ σ' : CS} {r : Int32} {p0 : Int32} {p1 : Int32}  (h : f_M_ruleOf p0 p1 σ = some (r, σ')) : CmI l g yX12_ruleOf (.code yX12_ruleOf cX12_ruleOf 7 (some .int)) 1 24 am Rr σ [.ref (am 112), .int p0, .int p1] r σ' := by
  refine Ct.of rfl (by decide) (Nat.le_of_ble_eq_true rfl) ?_
  intro p e s m args below meth c A C hr
  show NMI g p l e s m args below meth c A 1 24 7 am Rr (r, σ') σ [(0, .ref (am 112)), (1, .int p0), (2, .int p1)] 0 []
  unfold f_M_ruleOf at h
  refine nw_aload_n C dX12_ruleOf_0 rfl 0 rfl ?_
  refine nw_iload_n C dX12_ruleOf_1 rfl 1 rfl ?_
  refine nm_callVV (q0 := 0) (As := [.int p0]) (rest := []) C h (fun _ _ e => c_M_forces e) tw_2151 kv_X12_forces ml_O rfl ⟨Nat.le_of_ble_eq_true rfl, Nat.le_of_ble_eq_true rfl⟩ rfl dX12_ruleOf_2 rfl (Nat.le_of_ble_eq_true rfl) (fun r2 σ2 h => ?_)
  refine nw_iload_n C dX12_ruleOf_5 rfl 2 rfl ?_
  refine nw_if_ne (tgt := 14) C dX12_ruleOf_6 (by decide) h (fun _ h => ?_) (fun _ h => ?_)
  · refine nw_bipush (v := 40) C dX12_ruleOf_9 (by decide) ?_
    refine nw_goto (tgt := 46) C dX12_ruleOf_11 (by decide) ?_
    exact nw_lv (lv' := [(0, .ref (am 112)), (2, .int p1)]) [0, 2] rfl (w_M_ruleOf_46 C hr p1 40 _ h)
  · refine nw_iload_n C dX12_ruleOf_14 rfl 2 rfl ?_
    refine nw_iconst (v := 1) C dX12_ruleOf_15 (by decide) ?_
    refine nw_icmp_ne (tgt := 24) C dX12_ruleOf_16 (by decide) h (fun _ h => ?_) (fun _ h => ?_)
    · refine nw_bipush (v := 120) C dX12_ruleOf_19 (by decide) ?_
      refine nw_goto (tgt := 46) C dX12_ruleOf_21 (by decide) ?_
      exact nw_lv (lv' := [(0, .ref (am 112)), (2, .int p1)]) [0, 2] rfl (w_M_ruleOf_46 C hr p1 120 _ h)
    · refine nw_iload_n C dX12_ruleOf_24 rfl 2 rfl ?_
      refine nw_iconst (v := 2) C dX12_ruleOf_25 (by decide) ?_
      refine nw_icmp_ne (tgt := 35) C dX12_ruleOf_26 (by decide) h (fun _ h => ?_) (fun _ h => ?_)
      · refine nw_sipush (v := 1080) C dX12_ruleOf_29 (by decide) ?_
        refine nw_goto (tgt := 46) C dX12_ruleOf_32 (by decide) ?_
        exact nw_lv (lv' := [(0, .ref (am 112)), (2, .int p1)]) [0, 2] rfl (w_M_ruleOf_46 C hr p1 1080 _ h)
      · refine nw_iload_n C dX12_ruleOf_35 rfl 2 rfl ?_
        refine nw_iconst (v := 3) C dX12_ruleOf_36 (by decide) ?_
        refine nw_icmp_ne (tgt := 45) C dX12_ruleOf_37 (by decide) h (fun _ h => ?_) (fun _ h => ?_)
        · refine nw_bipush (v := 20) C dX12_ruleOf_40 (by decide) ?_
          refine nw_goto (tgt := 46) C dX12_ruleOf_42 (by decide) ?_
          exact nw_lv (lv' := [(0, .ref (am 112)), (2, .int p1)]) [0, 2] rfl (w_M_ruleOf_46 C hr p1 20 _ h)
        · refine nw_iconst (v := 1) C dX12_ruleOf_45 (by decide) ?_
          exact nw_lv (lv' := [(0, .ref (am 112)), (2, .int p1)]) [0, 2] rfl (w_M_ruleOf_46 C hr p1 1 _ h)
theorem dX12_rule_0 : decode cX12_rule 0 = .ok (.aload_n 0, 1) := by decide +kernel
theorem dX12_rule_1 : decode cX12_rule 1 = .ok (.iconst 0, 1) := by decide +kernel
theorem dX12_rule_2 : decode cX12_rule 2 = .ok (.putfield 253, 3) := by decide +kernel
theorem dX12_rule_5 : decode cX12_rule 5 = .ok (.aload_n 0, 1) := by decide +kernel
theorem dX12_rule_6 : decode cX12_rule 6 = .ok (.iload_n 1, 1) := by decide +kernel
theorem dX12_rule_7 : decode cX12_rule 7 = .ok (.invokestatic 298, 3) := by decide +kernel
theorem dX12_rule_10 : decode cX12_rule 10 = .ok (.ifCond .eq 12, 3) := by decide +kernel
theorem dX12_rule_13 : decode cX12_rule 13 = .ok (.iload_n 2, 1) := by decide +kernel
theorem dX12_rule_14 : decode cX12_rule 14 = .ok (.iconst 0, 1) := by decide +kernel
theorem dX12_rule_15 : decode cX12_rule 15 = .ok (.iconst 4, 1) := by decide +kernel
theorem dX12_rule_16 : decode cX12_rule 16 = .ok (.invokestatic 257, 3) := by decide +kernel
theorem dX12_rule_19 : decode cX12_rule 19 = .ok (.ifCond .ne 7, 3) := by decide +kernel
theorem dX12_rule_22 : decode cX12_rule 22 = .ok (.iconst 1, 1) := by decide +kernel
theorem dX12_rule_23 : decode cX12_rule 23 = .ok (.goto 4, 3) := by decide +kernel
theorem dX12_rule_26 : decode cX12_rule 26 = .ok (.iconst 0, 1) := by decide +kernel
theorem dX12_rule_27 : decode cX12_rule 27 = .ok (.iconst 1, 1) := by decide +kernel
theorem dX12_rule_28 : decode cX12_rule 28 = .ok (.invokevirtual 265, 3) := by decide +kernel
theorem dX12_rule_31 : decode cX12_rule 31 = .ok (.ifCond .eq 7, 3) := by decide +kernel
theorem dX12_rule_34 : decode cX12_rule 34 = .ok (.iconst 0, 1) := by decide +kernel
theorem dX12_rule_35 : decode cX12_rule 35 = .ok (.goto 9, 3) := by decide +kernel
theorem dX12_rule_38 : decode cX12_rule 38 = .ok (.aload_n 0, 1) := by decide +kernel
theorem dX12_rule_39 : decode cX12_rule 39 = .ok (.iload_n 1, 1) := by decide +kernel
theorem dX12_rule_40 : decode cX12_rule 40 = .ok (.iload_n 2, 1) := by decide +kernel
theorem dX12_rule_41 : decode cX12_rule 41 = .ok (.invokevirtual 500, 3) := by decide +kernel
theorem dX12_rule_44 : decode cX12_rule 44 = .ok (.ireturn, 1) := by decide +kernel
def B_M_rule_27   (x1 : Int32) (x2 : Int32) (z1 : Int32) (σ : CS) : Option (Int32 × CS) := bnd (f_M_bad z1 1 σ) (fun r28 σ28 => if r28 = 0 then bnd (f_M_ruleOf x1 x2 σ28) (fun r41 σ41 => some (r41, σ41)) else some (0, σ28))
set_option maxHeartbeats 4000000 in
set_option maxRecDepth 100000 in
theorem w_M_rule_27 (C : Cx g p s m args meth c A 3 cX12_rule yX12_rule.cls) (hr : meth.sig.returnType = (some .int))  {res : Int32 × CS}   (x1 : Int32) (x2 : Int32) (z1 : Int32)  (σ : CS) (h : B_M_rule_27 x1 x2 z1 σ = some res) : NMI g p l e s m args below meth c A 2 50 3 am Rr res σ [(0, .ref (am 112)), (1, .int x1), (2, .int x2)] 27 [.int z1, .ref (am 112)] := by
  unfold B_M_rule_27 at h
  refine nw_iconst (v := 1) C dX12_rule_27 (by decide) ?_
  refine nm_callVI (q0 := 0) (As := [.int z1, .int 1]) (rest := []) C h (fun _ _ e => c_M_bad e) tw_1924 kv_X12_bad ml_O rfl ⟨Nat.le_of_ble_eq_true rfl, Nat.le_of_ble_eq_true rfl⟩ rfl dX12_rule_28 rfl (Nat.le_of_ble_eq_true rfl) (fun r28 σ28 h => ?_)
  refine nw_if_eq (tgt := 38) C dX12_rule_31 (by decide) h (fun _ h => ?_) (fun _ h => ?_)
  · refine nw_aload_n C dX12_rule_38 rfl 0 rfl ?_
    refine nw_iload_n C dX12_rule_39 rfl 1 rfl ?_
    refine nw_iload_n C dX12_rule_40 rfl 2 rfl ?_
    refine nm_callVI (q0 := 0) (As := [.int x1, .int x2]) (rest := []) C h (fun _ _ e => c_M_ruleOf e) tw_2159 kv_X12_ruleOf ml_O rfl ⟨Nat.le_of_ble_eq_true rfl, Nat.le_of_ble_eq_true rfl⟩ rfl dX12_rule_41 rfl (Nat.le_of_ble_eq_true rfl) (fun r41 σ41 h => ?_)
    exact nm_iret C hr dX12_rule_44 h
  · refine nw_iconst (v := 0) C dX12_rule_34 (by decide) ?_
    refine nw_goto (tgt := 44) C dX12_rule_35 (by decide) ?_
    exact nm_iret C hr dX12_rule_44 h
def f_M_rule (p0 : Int32) (p1 : Int32) (σ : CS) : Option (Int32 × CS) := bnd (f_M_isDay p0 (sF σ 0 0)) (fun r7 σ7 => if r7 = 0 then B_M_rule_27 p0 p1 1 σ7 else bnd (f_M_in p1 0 4 σ7) (fun r16 σ16 => if r16 = 0 then B_M_rule_27 p0 p1 1 σ16 else B_M_rule_27 p0 p1 0 σ16))
set_option maxHeartbeats 4000000 in
set_option maxRecDepth 100000 in
theorem c_M_rule {l : Launch} {g : EG} {am : Nat → Nat} {Rr : va_W} {σ σ' : CS} {r : Int32} {p0 : Int32} {p1 : Int32}  (h : f_M_rule p0 p1 σ = some (r, σ')) : CmI l g yX12_rule (.code yX12_rule cX12_rule 3 (some .int)) 2 50 am Rr σ [.ref (am 112), .int p0, .int p1] r σ' := by
  refine Ct.of rfl (by decide) (Nat.le_of_ble_eq_true rfl) ?_
  intro p e s m args below meth c A C hr
  show NMI g p l e s m args below meth c A 2 50 3 am Rr (r, σ') σ [(0, .ref (am 112)), (1, .int p0), (2, .int p1)] 0 []
  unfold f_M_rule at h
  refine nw_aload_n C dX12_rule_0 rfl 0 rfl ?_
  refine nw_iconst (v := 0) C dX12_rule_1 (by decide) ?_
  refine nw_put (ty := .int) C in_X12 0 ml_O rfl 0 (by decide) tyX12 tyX12_ok nmX12 tw_1573 rfl rfl (by decide +kernel) rfl rfl (Nat.le_of_ble_eq_true rfl) dX12_rule_2 ms_0 ?_
  refine nw_aload_n C dX12_rule_5 rfl 0 rfl ?_
  refine nw_iload_n C dX12_rule_6 rfl 1 rfl ?_
  refine nm_callSI  (As := [.int p0]) (rest := [.ref (am 112)]) C h (fun _ _ e => c_M_isDay e) tw_1936 ks_X12_isDay ⟨Nat.le_of_ble_eq_true rfl, Nat.le_of_ble_eq_true rfl⟩ rfl dX12_rule_7 rfl (Nat.le_of_ble_eq_true rfl) (fun r7 σ7 h => ?_)
  refine nw_if_eq (tgt := 22) C dX12_rule_10 (by decide) h (fun _ h => ?_) (fun _ h => ?_)
  · refine nw_iconst (v := 1) C dX12_rule_22 (by decide) ?_
    refine nw_goto (tgt := 27) C dX12_rule_23 (by decide) ?_
    exact nw_lv (lv' := [(0, .ref (am 112)), (1, .int p0), (2, .int p1)]) [0, 1, 2] rfl (w_M_rule_27 C hr p0 p1 1 _ h)
  · refine nw_iload_n C dX12_rule_13 rfl 2 rfl ?_
    refine nw_iconst (v := 0) C dX12_rule_14 (by decide) ?_
    refine nw_iconst (v := 4) C dX12_rule_15 (by decide) ?_
    refine nm_callSI  (As := [.int p1, .int 0, .int 4]) (rest := [.ref (am 112)]) C h (fun _ _ e => c_M_in e) tw_1918 ks_X12_in ⟨Nat.le_of_ble_eq_true rfl, Nat.le_of_ble_eq_true rfl⟩ rfl dX12_rule_16 rfl (Nat.le_of_ble_eq_true rfl) (fun r16 σ16 h => ?_)
    refine nw_if_ne (tgt := 26) C dX12_rule_19 (by decide) h (fun _ h => ?_) (fun _ h => ?_)
    · refine nw_iconst (v := 1) C dX12_rule_22 (by decide) ?_
      refine nw_goto (tgt := 27) C dX12_rule_23 (by decide) ?_
      exact nw_lv (lv' := [(0, .ref (am 112)), (1, .int p0), (2, .int p1)]) [0, 1, 2] rfl (w_M_rule_27 C hr p0 p1 1 _ h)
    · refine nw_iconst (v := 0) C dX12_rule_26 (by decide) ?_
      exact nw_lv (lv' := [(0, .ref (am 112)), (1, .int p0), (2, .int p1)]) [0, 1, 2] rfl (w_M_rule_27 C hr p0 p1 0 _ h)
theorem dX12_person_0 : decode cX12_person 0 = .ok (.aload_n 0, 1) := by decide +kernel
theorem dX12_person_1 : decode cX12_person 1 = .ok (.iconst 0, 1) := by decide +kernel
theorem dX12_person_2 : decode cX12_person 2 = .ok (.putfield 253, 3) := by decide +kernel
theorem dX12_person_5 : decode cX12_person 5 = .ok (.aload_n 0, 1) := by decide +kernel
theorem dX12_person_6 : decode cX12_person 6 = .ok (.iload_n 1, 1) := by decide +kernel
theorem dX12_person_7 : decode cX12_person 7 = .ok (.iconst 0, 1) := by decide +kernel
theorem dX12_person_8 : decode cX12_person 8 = .ok (.iconst 3, 1) := by decide +kernel
theorem dX12_person_9 : decode cX12_person 9 = .ok (.invokestatic 257, 3) := by decide +kernel
theorem dX12_person_12 : decode cX12_person 12 = .ok (.ifCond .eq 14, 3) := by decide +kernel
theorem dX12_person_15 : decode cX12_person 15 = .ok (.iload_n 2, 1) := by decide +kernel
theorem dX12_person_16 : decode cX12_person 16 = .ok (.iconst 0, 1) := by decide +kernel
theorem dX12_person_17 : decode cX12_person 17 = .ok (.ldc_w 503, 3) := by decide +kernel
theorem dX12_person_20 : decode cX12_person 20 = .ok (.invokestatic 257, 3) := by decide +kernel
theorem dX12_person_23 : decode cX12_person 23 = .ok (.ifCond .ne 7, 3) := by decide +kernel
theorem dX12_person_26 : decode cX12_person 26 = .ok (.iconst 1, 1) := by decide +kernel
theorem dX12_person_27 : decode cX12_person 27 = .ok (.goto 4, 3) := by decide +kernel
theorem dX12_person_30 : decode cX12_person 30 = .ok (.iconst 0, 1) := by decide +kernel
theorem dX12_person_31 : decode cX12_person 31 = .ok (.iconst 1, 1) := by decide +kernel
theorem dX12_person_32 : decode cX12_person 32 = .ok (.invokevirtual 265, 3) := by decide +kernel
theorem dX12_person_35 : decode cX12_person 35 = .ok (.ifCond .ne 25, 3) := by decide +kernel
theorem dX12_person_38 : decode cX12_person 38 = .ok (.aload_n 0, 1) := by decide +kernel
theorem dX12_person_39 : decode cX12_person 39 = .ok (.aload_n 0, 1) := by decide +kernel
theorem dX12_person_40 : decode cX12_person 40 = .ok (.getfield 504, 3) := by decide +kernel
theorem dX12_person_43 : decode cX12_person 43 = .ok (.bipush 40, 2) := by decide +kernel
theorem dX12_person_45 : decode cX12_person 45 = .ok (.if_icmp .ne 7, 3) := by decide +kernel
theorem dX12_person_48 : decode cX12_person 48 = .ok (.iconst 1, 1) := by decide +kernel
theorem dX12_person_49 : decode cX12_person 49 = .ok (.goto 4, 3) := by decide +kernel
theorem dX12_person_52 : decode cX12_person 52 = .ok (.iconst 0, 1) := by decide +kernel
theorem dX12_person_53 : decode cX12_person 53 = .ok (.iconst 2, 1) := by decide +kernel
theorem dX12_person_54 : decode cX12_person 54 = .ok (.invokevirtual 265, 3) := by decide +kernel
theorem dX12_person_57 : decode cX12_person 57 = .ok (.ifCond .eq 5, 3) := by decide +kernel
theorem dX12_person_60 : decode cX12_person 60 = .ok (.iconst 0, 1) := by decide +kernel
theorem dX12_person_61 : decode cX12_person 61 = .ok (.ireturn, 1) := by decide +kernel
theorem dX12_person_62 : decode cX12_person 62 = .ok (.aload_n 0, 1) := by decide +kernel
theorem dX12_person_63 : decode cX12_person 63 = .ok (.getfield 79, 3) := by decide +kernel
theorem dX12_person_66 : decode cX12_person 66 = .ok (.aload_n 0, 1) := by decide +kernel
theorem dX12_person_67 : decode cX12_person 67 = .ok (.getfield 504, 3) := by decide +kernel
theorem dX12_person_70 : decode cX12_person 70 = .ok (.iload_n 1, 1) := by decide +kernel
theorem dX12_person_71 : decode cX12_person 71 = .ok (.iastore, 1) := by decide +kernel
theorem dX12_person_72 : decode cX12_person 72 = .ok (.aload_n 0, 1) := by decide +kernel
theorem dX12_person_73 : decode cX12_person 73 = .ok (.getfield 82, 3) := by decide +kernel
theorem dX12_person_76 : decode cX12_person 76 = .ok (.aload_n 0, 1) := by decide +kernel
theorem dX12_person_77 : decode cX12_person 77 = .ok (.getfield 504, 3) := by decide +kernel
theorem dX12_person_80 : decode cX12_person 80 = .ok (.iload_n 2, 1) := by decide +kernel
theorem dX12_person_81 : decode cX12_person 81 = .ok (.iastore, 1) := by decide +kernel
theorem dX12_person_82 : decode cX12_person 82 = .ok (.aload_n 0, 1) := by decide +kernel
theorem dX12_person_83 : decode cX12_person 83 = .ok (.getfield 85, 3) := by decide +kernel
theorem dX12_person_86 : decode cX12_person 86 = .ok (.aload_n 0, 1) := by decide +kernel
theorem dX12_person_87 : decode cX12_person 87 = .ok (.getfield 504, 3) := by decide +kernel
theorem dX12_person_90 : decode cX12_person 90 = .ok (.iconst (-1), 1) := by decide +kernel
theorem dX12_person_91 : decode cX12_person 91 = .ok (.iastore, 1) := by decide +kernel
theorem dX12_person_92 : decode cX12_person 92 = .ok (.aload_n 0, 1) := by decide +kernel
theorem dX12_person_93 : decode cX12_person 93 = .ok (.getfield 88, 3) := by decide +kernel
theorem dX12_person_96 : decode cX12_person 96 = .ok (.aload_n 0, 1) := by decide +kernel
theorem dX12_person_97 : decode cX12_person 97 = .ok (.getfield 504, 3) := by decide +kernel
theorem dX12_person_100 : decode cX12_person 100 = .ok (.iconst (-1), 1) := by decide +kernel
theorem dX12_person_101 : decode cX12_person 101 = .ok (.iastore, 1) := by decide +kernel
theorem dX12_person_102 : decode cX12_person 102 = .ok (.aload_n 0, 1) := by decide +kernel
theorem dX12_person_103 : decode cX12_person 103 = .ok (.dup, 1) := by decide +kernel
theorem dX12_person_104 : decode cX12_person 104 = .ok (.getfield 504, 3) := by decide +kernel
theorem dX12_person_107 : decode cX12_person 107 = .ok (.iconst 1, 1) := by decide +kernel
theorem dX12_person_108 : decode cX12_person 108 = .ok (.iadd, 1) := by decide +kernel
theorem dX12_person_109 : decode cX12_person 109 = .ok (.putfield 504, 3) := by decide +kernel
theorem dX12_person_112 : decode cX12_person 112 = .ok (.aload_n 0, 1) := by decide +kernel
theorem dX12_person_113 : decode cX12_person 113 = .ok (.getfield 504, 3) := by decide +kernel
theorem dX12_person_116 : decode cX12_person 116 = .ok (.iconst 1, 1) := by decide +kernel
theorem dX12_person_117 : decode cX12_person 117 = .ok (.isub, 1) := by decide +kernel
theorem dX12_person_118 : decode cX12_person 118 = .ok (.ireturn, 1) := by decide +kernel
def B_M_person_53   (x1 : Int32) (x2 : Int32) (z1 : Int32) (σ : CS) : Option (Int32 × CS) := bnd (f_M_bad z1 2 σ) (fun r54 σ54 => if r54 = 0 then gix (σ54.1 38) 40 (gix (σ54.1 38) 40 (gix (σ54.1 38) 40 (gix (σ54.1 38) 40 (some ((((σ54.1 38) + 1) - 1), (sF (wr (wr (wr (wr σ54 40 (σ54.1 38) x1) 41 (σ54.1 38) x2) 42 (σ54.1 38) (-1)) 43 (σ54.1 38) (-1)) 38 ((σ54.1 38) + 1))))))) else some (0, σ54))
set_option maxHeartbeats 4000000 in
set_option maxRecDepth 100000 in
theorem w_M_person_53 (C : Cx g p s m args meth c A 3 cX12_person yX12_person.cls) (hr : meth.sig.returnType = (some .int))  {res : Int32 × CS}   (x1 : Int32) (x2 : Int32) (z1 : Int32)  (σ : CS) (h : B_M_person_53 x1 x2 z1 σ = some res) : NMI g p l e s m args below meth c A 1 22 3 am Rr res σ [(0, .ref (am 112)), (1, .int x1), (2, .int x2)] 53 [.int z1, .ref (am 112)] := by
  unfold B_M_person_53 at h
  refine nw_iconst (v := 2) C dX12_person_53 (by decide) ?_
  refine nm_callVI (q0 := 0) (As := [.int z1, .int 2]) (rest := []) C h (fun _ _ e => c_M_bad e) tw_1924 kv_X12_bad ml_O rfl ⟨Nat.le_of_ble_eq_true rfl, Nat.le_of_ble_eq_true rfl⟩ rfl dX12_person_54 rfl (Nat.le_of_ble_eq_true rfl) (fun r54 σ54 h => ?_)
  refine nw_if_eq (tgt := 62) C dX12_person_57 (by decide) h (fun _ h => ?_) (fun _ h => ?_)
  · refine nw_aload_n C dX12_person_62 rfl 0 rfl ?_
    refine nw_get (v := .ref (am 40)) C in_X12 0 ml_O rfl 40 (by decide) tw_1613 rfl mf_40 dX12_person_63 ?_
    refine nw_aload_n C dX12_person_66 rfl 0 rfl ?_
    refine nw_get (v := .int (σ54.1 38)) C in_X12 0 ml_O rfl 38 (by decide) tw_1611 rfl mf_38 dX12_person_67 ?_
    refine nw_iload_n C dX12_person_70 rfl 1 rfl ?_
    refine nw_iast C 22 ml_40 dX12_person_71 h ms_40 (fun h => ?_)
    refine nw_aload_n C dX12_person_72 rfl 0 rfl ?_
    refine nw_get (v := .ref (am 41)) C in_X12 0 ml_O rfl 41 (by decide) tw_1614 rfl mf_41 dX12_person_73 ?_
    refine nw_aload_n C dX12_person_76 rfl 0 rfl ?_
    refine nw_get (v := .int (σ54.1 38)) C in_X12 0 ml_O rfl 38 (by decide) tw_1611 rfl rfl dX12_person_77 ?_
    refine nw_iload_n C dX12_person_80 rfl 2 rfl ?_
    refine nw_iast C 23 ml_41 dX12_person_81 h ms_41 (fun h => ?_)
    refine nw_aload_n C dX12_person_82 rfl 0 rfl ?_
    refine nw_get (v := .ref (am 42)) C in_X12 0 ml_O rfl 42 (by decide) tw_1615 rfl mf_42 dX12_person_83 ?_
    refine nw_aload_n C dX12_person_86 rfl 0 rfl ?_
    refine nw_get (v := .int (σ54.1 38)) C in_X12 0 ml_O rfl 38 (by decide) tw_1611 rfl rfl dX12_person_87 ?_
    refine nw_iconst (v := (-1)) C dX12_person_90 (by decide) ?_
    refine nw_iast C 24 ml_42 dX12_person_91 h ms_42 (fun h => ?_)
    refine nw_aload_n C dX12_person_92 rfl 0 rfl ?_
    refine nw_get (v := .ref (am 43)) C in_X12 0 ml_O rfl 43 (by decide) tw_1616 rfl mf_43 dX12_person_93 ?_
    refine nw_aload_n C dX12_person_96 rfl 0 rfl ?_
    refine nw_get (v := .int (σ54.1 38)) C in_X12 0 ml_O rfl 38 (by decide) tw_1611 rfl rfl dX12_person_97 ?_
    refine nw_iconst (v := (-1)) C dX12_person_100 (by decide) ?_
    refine nw_iast C 25 ml_43 dX12_person_101 h ms_43 (fun h => ?_)
    refine nw_aload_n C dX12_person_102 rfl 0 rfl ?_
    refine nw_dup C dX12_person_103 rfl ?_
    refine nw_get (v := .int (σ54.1 38)) C in_X12 0 ml_O rfl 38 (by decide) tw_1611 rfl rfl dX12_person_104 ?_
    refine nw_iconst (v := 1) C dX12_person_107 (by decide) ?_
    refine nw_iadd C dX12_person_108 ?_
    refine nw_put (ty := .int) C in_X12 0 ml_O rfl 38 (by decide) tyX12 tyX12_ok nmX12 tw_1611 rfl rfl (by decide +kernel) rfl rfl (Nat.le_of_ble_eq_true rfl) dX12_person_109 ms_38 ?_
    refine nw_aload_n C dX12_person_112 rfl 0 rfl ?_
    refine nw_get (v := .int ((σ54.1 38) + 1)) C in_X12 0 ml_O rfl 38 (by decide) tw_1611 rfl rfl dX12_person_113 ?_
    refine nw_iconst (v := 1) C dX12_person_116 (by decide) ?_
    refine nw_isub C dX12_person_117 ?_
    exact nm_iret C hr dX12_person_118 h
  · refine nw_iconst (v := 0) C dX12_person_60 (by decide) ?_
    exact nm_iret C hr dX12_person_61 h
def B_M_person_31   (x1 : Int32) (x2 : Int32) (z1 : Int32) (σ : CS) : Option (Int32 × CS) := bnd (f_M_bad z1 1 σ) (fun r32 σ32 => if r32 = 0 then if (σ32.1 38) = 40 then B_M_person_53 x1 x2 1 σ32 else B_M_person_53 x1 x2 0 σ32 else some (0, σ32))
set_option maxHeartbeats 4000000 in
set_option maxRecDepth 100000 in
theorem w_M_person_31 (C : Cx g p s m args meth c A 3 cX12_person yX12_person.cls) (hr : meth.sig.returnType = (some .int))  {res : Int32 × CS}   (x1 : Int32) (x2 : Int32) (z1 : Int32)  (σ : CS) (h : B_M_person_31 x1 x2 z1 σ = some res) : NMI g p l e s m args below meth c A 1 22 3 am Rr res σ [(0, .ref (am 112)), (1, .int x1), (2, .int x2)] 31 [.int z1, .ref (am 112)] := by
  unfold B_M_person_31 at h
  refine nw_iconst (v := 1) C dX12_person_31 (by decide) ?_
  refine nm_callVI (q0 := 0) (As := [.int z1, .int 1]) (rest := []) C h (fun _ _ e => c_M_bad e) tw_1924 kv_X12_bad ml_O rfl ⟨Nat.le_of_ble_eq_true rfl, Nat.le_of_ble_eq_true rfl⟩ rfl dX12_person_32 rfl (Nat.le_of_ble_eq_true rfl) (fun r32 σ32 h => ?_)
  refine nw_if_ne (tgt := 60) C dX12_person_35 (by decide) h (fun _ h => ?_) (fun _ h => ?_)
  · refine nw_aload_n C dX12_person_38 rfl 0 rfl ?_
    refine nw_aload_n C dX12_person_39 rfl 0 rfl ?_
    refine nw_get (v := .int (σ32.1 38)) C in_X12 0 ml_O rfl 38 (by decide) tw_1611 rfl mf_38 dX12_person_40 ?_
    refine nw_bipush (v := 40) C dX12_person_43 (by decide) ?_
    refine nw_icmp_ne (tgt := 52) C dX12_person_45 (by decide) h (fun _ h => ?_) (fun _ h => ?_)
    · refine nw_iconst (v := 1) C dX12_person_48 (by decide) ?_
      refine nw_goto (tgt := 53) C dX12_person_49 (by decide) ?_
      exact nw_lv (lv' := [(0, .ref (am 112)), (1, .int x1), (2, .int x2)]) [0, 1, 2] rfl (w_M_person_53 C hr x1 x2 1 _ h)
    · refine nw_iconst (v := 0) C dX12_person_52 (by decide) ?_
      exact nw_lv (lv' := [(0, .ref (am 112)), (1, .int x1), (2, .int x2)]) [0, 1, 2] rfl (w_M_person_53 C hr x1 x2 0 _ h)
  · refine nw_iconst (v := 0) C dX12_person_60 (by decide) ?_
    exact nm_iret C hr dX12_person_61 h
def f_M_person (p0 : Int32) (p1 : Int32) (σ : CS) : Option (Int32 × CS) := bnd (f_M_in p0 0 3 (sF σ 0 0)) (fun r9 σ9 => if r9 = 0 then B_M_person_31 p0 p1 1 σ9 else bnd (f_M_in p1 0 1000000 σ9) (fun r20 σ20 => if r20 = 0 then B_M_person_31 p0 p1 1 σ20 else B_M_person_31 p0 p1 0 σ20))
set_option maxHeartbeats 4000000 in
set_option maxRecDepth 100000 in
theorem c_M_person {l : Launch} {g : EG} {am : Nat → Nat} {Rr : va_W} {σ σ' : CS} {r : Int32} {p0 : Int32} {p1 : Int32}  (h : f_M_person p0 p1 σ = some (r, σ')) : CmI l g yX12_person (.code yX12_person cX12_person 3 (some .int)) 1 22 am Rr σ [.ref (am 112), .int p0, .int p1] r σ' := by
  refine Ct.of rfl (by decide) (Nat.le_of_ble_eq_true rfl) ?_
  intro p e s m args below meth c A C hr
  show NMI g p l e s m args below meth c A 1 22 3 am Rr (r, σ') σ [(0, .ref (am 112)), (1, .int p0), (2, .int p1)] 0 []
  unfold f_M_person at h
  refine nw_aload_n C dX12_person_0 rfl 0 rfl ?_
  refine nw_iconst (v := 0) C dX12_person_1 (by decide) ?_
  refine nw_put (ty := .int) C in_X12 0 ml_O rfl 0 (by decide) tyX12 tyX12_ok nmX12 tw_1573 rfl rfl (by decide +kernel) rfl rfl (Nat.le_of_ble_eq_true rfl) dX12_person_2 ms_0 ?_
  refine nw_aload_n C dX12_person_5 rfl 0 rfl ?_
  refine nw_iload_n C dX12_person_6 rfl 1 rfl ?_
  refine nw_iconst (v := 0) C dX12_person_7 (by decide) ?_
  refine nw_iconst (v := 3) C dX12_person_8 (by decide) ?_
  refine nm_callSI  (As := [.int p0, .int 0, .int 3]) (rest := [.ref (am 112)]) C h (fun _ _ e => c_M_in e) tw_1918 ks_X12_in ⟨Nat.le_of_ble_eq_true rfl, Nat.le_of_ble_eq_true rfl⟩ rfl dX12_person_9 rfl (Nat.le_of_ble_eq_true rfl) (fun r9 σ9 h => ?_)
  refine nw_if_eq (tgt := 26) C dX12_person_12 (by decide) h (fun _ h => ?_) (fun _ h => ?_)
  · refine nw_iconst (v := 1) C dX12_person_26 (by decide) ?_
    refine nw_goto (tgt := 31) C dX12_person_27 (by decide) ?_
    exact nw_lv (lv' := [(0, .ref (am 112)), (1, .int p0), (2, .int p1)]) [0, 1, 2] rfl (w_M_person_31 C hr p0 p1 1 _ h)
  · refine nw_iload_n C dX12_person_15 rfl 2 rfl ?_
    refine nw_iconst (v := 0) C dX12_person_16 (by decide) ?_
    refine nw_ldcw (v := 1000000) C tw_2167 dX12_person_17 ?_
    refine nm_callSI  (As := [.int p1, .int 0, .int 1000000]) (rest := [.ref (am 112)]) C h (fun _ _ e => c_M_in e) tw_1918 ks_X12_in ⟨Nat.le_of_ble_eq_true rfl, Nat.le_of_ble_eq_true rfl⟩ rfl dX12_person_20 rfl (Nat.le_of_ble_eq_true rfl) (fun r20 σ20 h => ?_)
    refine nw_if_ne (tgt := 30) C dX12_person_23 (by decide) h (fun _ h => ?_) (fun _ h => ?_)
    · refine nw_iconst (v := 1) C dX12_person_26 (by decide) ?_
      refine nw_goto (tgt := 31) C dX12_person_27 (by decide) ?_
      exact nw_lv (lv' := [(0, .ref (am 112)), (1, .int p0), (2, .int p1)]) [0, 1, 2] rfl (w_M_person_31 C hr p0 p1 1 _ h)
    · refine nw_iconst (v := 0) C dX12_person_30 (by decide) ?_
      exact nw_lv (lv' := [(0, .ref (am 112)), (1, .int p0), (2, .int p1)]) [0, 1, 2] rfl (w_M_person_31 C hr p0 p1 0 _ h)
theorem dX12_isPerson_0 : decode cX12_isPerson 0 = .ok (.iload_n 1, 1) := by decide +kernel
theorem dX12_isPerson_1 : decode cX12_isPerson 1 = .ok (.iconst 0, 1) := by decide +kernel
theorem dX12_isPerson_2 : decode cX12_isPerson 2 = .ok (.aload_n 0, 1) := by decide +kernel
theorem dX12_isPerson_3 : decode cX12_isPerson 3 = .ok (.getfield 504, 3) := by decide +kernel
theorem dX12_isPerson_6 : decode cX12_isPerson 6 = .ok (.iconst 1, 1) := by decide +kernel
theorem dX12_isPerson_7 : decode cX12_isPerson 7 = .ok (.isub, 1) := by decide +kernel
theorem dX12_isPerson_8 : decode cX12_isPerson 8 = .ok (.invokestatic 257, 3) := by decide +kernel
theorem dX12_isPerson_11 : decode cX12_isPerson 11 = .ok (.ireturn, 1) := by decide +kernel
def f_M_isPerson (p0 : Int32) (σ : CS) : Option (Int32 × CS) := bnd (f_M_in p0 0 ((σ.1 38) - 1) σ) (fun r8 σ8 => grd (r8 = 0 ∨ r8 = 1) (some (r8, σ8)))
set_option maxHeartbeats 4000000 in
set_option maxRecDepth 100000 in
theorem c_M_isPerson {l : Launch} {g : EG} {am : Nat → Nat} {Rr : va_W} {σ σ' : CS} {r : Int32} {p0 : Int32}  (h : f_M_isPerson p0 σ = some (r, σ')) : CmI l g yX12_isPerson (.code yX12_isPerson cX12_isPerson 2 (some .boolean)) 1 22 am Rr σ [.ref (am 112), .int p0] r σ' := by
  refine Ct.of rfl (by decide) (Nat.le_of_ble_eq_true rfl) ?_
  intro p e s m args below meth c A C hr
  show NMI g p l e s m args below meth c A 1 22 2 am Rr (r, σ') σ [(0, .ref (am 112)), (1, .int p0)] 0 []
  unfold f_M_isPerson at h
  refine nw_iload_n C dX12_isPerson_0 rfl 1 rfl ?_
  refine nw_iconst (v := 0) C dX12_isPerson_1 (by decide) ?_
  refine nw_aload_n C dX12_isPerson_2 rfl 0 rfl ?_
  refine nw_get (v := .int (σ.1 38)) C in_X12 0 ml_O rfl 38 (by decide) tw_1611 rfl mf_38 dX12_isPerson_3 ?_
  refine nw_iconst (v := 1) C dX12_isPerson_6 (by decide) ?_
  refine nw_isub C dX12_isPerson_7 ?_
  refine nm_callSI  (As := [.int p0, .int 0, .int ((σ.1 38) - 1)]) (rest := []) C h (fun _ _ e => c_M_in e) tw_1918 ks_X12_in ⟨Nat.le_of_ble_eq_true rfl, Nat.le_of_ble_eq_true rfl⟩ rfl dX12_isPerson_8 rfl (Nat.le_of_ble_eq_true rfl) (fun r8 σ8 h => ?_)
  exact nm_zretg C hr dX12_isPerson_11 h
theorem dX12_isDead_0 : decode cX12_isDead 0 = .ok (.aload_n 0, 1) := by decide +kernel
theorem dX12_isDead_1 : decode cX12_isDead 1 = .ok (.getfield 88, 3) := by decide +kernel
theorem dX12_isDead_4 : decode cX12_isDead 4 = .ok (.iload_n 1, 1) := by decide +kernel
theorem dX12_isDead_5 : decode cX12_isDead 5 = .ok (.iaload, 1) := by decide +kernel
theorem dX12_isDead_6 : decode cX12_isDead 6 = .ok (.ifCond .lt 7, 3) := by decide +kernel
theorem dX12_isDead_9 : decode cX12_isDead 9 = .ok (.iconst 1, 1) := by decide +kernel
theorem dX12_isDead_10 : decode cX12_isDead 10 = .ok (.goto 4, 3) := by decide +kernel
theorem dX12_isDead_13 : decode cX12_isDead 13 = .ok (.iconst 0, 1) := by decide +kernel
theorem dX12_isDead_14 : decode cX12_isDead 14 = .ok (.ireturn, 1) := by decide +kernel
def f_M_isDead (p0 : Int32) (σ : CS) : Option (Int32 × CS) := gix p0 40 (if (rd σ 43 p0) < 0 then some (0, σ) else some (1, σ))
set_option maxHeartbeats 4000000 in
set_option maxRecDepth 100000 in
theorem c_M_isDead {l : Launch} {g : EG} {am : Nat → Nat} {Rr : va_W} {σ σ' : CS} {r : Int32} {p0 : Int32}  (h : f_M_isDead p0 σ = some (r, σ')) : CmI l g yX12_isDead (.code yX12_isDead cX12_isDead 2 (some .boolean)) 0 0 am Rr σ [.ref (am 112), .int p0] r σ' := by
  refine Ct.of rfl (by decide) (Nat.le_of_ble_eq_true rfl) ?_
  intro p e s m args below meth c A C hr
  show NMI g p l e s m args below meth c A 0 0 2 am Rr (r, σ') σ [(0, .ref (am 112)), (1, .int p0)] 0 []
  unfold f_M_isDead at h
  refine nw_aload_n C dX12_isDead_0 rfl 0 rfl ?_
  refine nw_get (v := .ref (am 43)) C in_X12 0 ml_O rfl 43 (by decide) tw_1616 rfl mf_43 dX12_isDead_1 ?_
  refine nw_iload_n C dX12_isDead_4 rfl 1 rfl ?_
  refine nw_iald C 25 ml_43 dX12_isDead_5 h (fun h => ?_)
  refine nw_if_lt (tgt := 13) C dX12_isDead_6 (by decide) h (fun _ h => ?_) (fun _ h => ?_)
  · refine nw_iconst (v := 0) C dX12_isDead_13 (by decide) ?_
    exact nm_zret C hr (Or.inl rfl) dX12_isDead_14 h
  · refine nw_iconst (v := 1) C dX12_isDead_9 (by decide) ?_
    refine nw_goto (tgt := 14) C dX12_isDead_10 (by decide) ?_
    exact nm_zret C hr (Or.inr rfl) dX12_isDead_14 h
theorem dX12_heir_0 : decode cX12_heir 0 = .ok (.aload_n 0, 1) := by decide +kernel
theorem dX12_heir_1 : decode cX12_heir 1 = .ok (.iconst 0, 1) := by decide +kernel
theorem dX12_heir_2 : decode cX12_heir 2 = .ok (.putfield 253, 3) := by decide +kernel
theorem dX12_heir_5 : decode cX12_heir 5 = .ok (.aload_n 0, 1) := by decide +kernel
theorem dX12_heir_6 : decode cX12_heir 6 = .ok (.aload_n 0, 1) := by decide +kernel
theorem dX12_heir_7 : decode cX12_heir 7 = .ok (.iload_n 1, 1) := by decide +kernel
theorem dX12_heir_8 : decode cX12_heir 8 = .ok (.invokevirtual 507, 3) := by decide +kernel
theorem dX12_heir_11 : decode cX12_heir 11 = .ok (.ifCond .eq 16, 3) := by decide +kernel
theorem dX12_heir_14 : decode cX12_heir 14 = .ok (.iload_n 2, 1) := by decide +kernel
theorem dX12_heir_15 : decode cX12_heir 15 = .ok (.iconst (-1), 1) := by decide +kernel
theorem dX12_heir_16 : decode cX12_heir 16 = .ok (.if_icmp .eq 15, 3) := by decide +kernel
theorem dX12_heir_19 : decode cX12_heir 19 = .ok (.aload_n 0, 1) := by decide +kernel
theorem dX12_heir_20 : decode cX12_heir 20 = .ok (.iload_n 2, 1) := by decide +kernel
theorem dX12_heir_21 : decode cX12_heir 21 = .ok (.invokevirtual 507, 3) := by decide +kernel
theorem dX12_heir_24 : decode cX12_heir 24 = .ok (.ifCond .ne 7, 3) := by decide +kernel
theorem dX12_heir_27 : decode cX12_heir 27 = .ok (.iconst 1, 1) := by decide +kernel
theorem dX12_heir_28 : decode cX12_heir 28 = .ok (.goto 4, 3) := by decide +kernel
theorem dX12_heir_31 : decode cX12_heir 31 = .ok (.iconst 0, 1) := by decide +kernel
theorem dX12_heir_32 : decode cX12_heir 32 = .ok (.iconst 1, 1) := by decide +kernel
theorem dX12_heir_33 : decode cX12_heir 33 = .ok (.invokevirtual 265, 3) := by decide +kernel
theorem dX12_heir_36 : decode cX12_heir 36 = .ok (.ifCond .ne 21, 3) := by decide +kernel
theorem dX12_heir_39 : decode cX12_heir 39 = .ok (.aload_n 0, 1) := by decide +kernel
theorem dX12_heir_40 : decode cX12_heir 40 = .ok (.iload_n 1, 1) := by decide +kernel
theorem dX12_heir_41 : decode cX12_heir 41 = .ok (.iload_n 2, 1) := by decide +kernel
theorem dX12_heir_42 : decode cX12_heir 42 = .ok (.if_icmp .ne 7, 3) := by decide +kernel
theorem dX12_heir_45 : decode cX12_heir 45 = .ok (.iconst 1, 1) := by decide +kernel
theorem dX12_heir_46 : decode cX12_heir 46 = .ok (.goto 4, 3) := by decide +kernel
theorem dX12_heir_49 : decode cX12_heir 49 = .ok (.iconst 0, 1) := by decide +kernel
theorem dX12_heir_50 : decode cX12_heir 50 = .ok (.iconst 2, 1) := by decide +kernel
theorem dX12_heir_51 : decode cX12_heir 51 = .ok (.invokevirtual 265, 3) := by decide +kernel
theorem dX12_heir_54 : decode cX12_heir 54 = .ok (.ifCond .eq 5, 3) := by decide +kernel
theorem dX12_heir_57 : decode cX12_heir 57 = .ok (.iconst 0, 1) := by decide +kernel
theorem dX12_heir_58 : decode cX12_heir 58 = .ok (.ireturn, 1) := by decide +kernel
theorem dX12_heir_59 : decode cX12_heir 59 = .ok (.aload_n 0, 1) := by decide +kernel
theorem dX12_heir_60 : decode cX12_heir 60 = .ok (.getfield 85, 3) := by decide +kernel
theorem dX12_heir_63 : decode cX12_heir 63 = .ok (.iload_n 1, 1) := by decide +kernel
theorem dX12_heir_64 : decode cX12_heir 64 = .ok (.iaload, 1) := by decide +kernel
theorem dX12_heir_65 : decode cX12_heir 65 = .ok (.istore_n 3, 1) := by decide +kernel
theorem dX12_heir_66 : decode cX12_heir 66 = .ok (.aload_n 0, 1) := by decide +kernel
theorem dX12_heir_67 : decode cX12_heir 67 = .ok (.getfield 85, 3) := by decide +kernel
theorem dX12_heir_70 : decode cX12_heir 70 = .ok (.iload_n 1, 1) := by decide +kernel
theorem dX12_heir_71 : decode cX12_heir 71 = .ok (.iload_n 2, 1) := by decide +kernel
theorem dX12_heir_72 : decode cX12_heir 72 = .ok (.iastore, 1) := by decide +kernel
theorem dX12_heir_73 : decode cX12_heir 73 = .ok (.iload_n 3, 1) := by decide +kernel
theorem dX12_heir_74 : decode cX12_heir 74 = .ok (.ireturn, 1) := by decide +kernel
def B_M_heir_50   (x1 : Int32) (x2 : Int32) (z1 : Int32) (σ : CS) : Option (Int32 × CS) := bnd (f_M_bad z1 2 σ) (fun r51 σ51 => if r51 = 0 then gix x1 40 (gix x1 40 (some ((rd σ51 42 x1), (wr σ51 42 x1 x2)))) else some (0, σ51))
set_option maxHeartbeats 4000000 in
set_option maxRecDepth 100000 in
theorem w_M_heir_50 (C : Cx g p s m args meth c A 4 cX12_heir yX12_heir.cls) (hr : meth.sig.returnType = (some .int))  {res : Int32 × CS}   (x1 : Int32) (x2 : Int32) (z1 : Int32)  (σ : CS) (h : B_M_heir_50 x1 x2 z1 σ = some res) : NMI g p l e s m args below meth c A 2 43 4 am Rr res σ [(0, .ref (am 112)), (1, .int x1), (2, .int x2)] 50 [.int z1, .ref (am 112)] := by
  unfold B_M_heir_50 at h
  refine nw_iconst (v := 2) C dX12_heir_50 (by decide) ?_
  refine nm_callVI (q0 := 0) (As := [.int z1, .int 2]) (rest := []) C h (fun _ _ e => c_M_bad e) tw_1924 kv_X12_bad ml_O rfl ⟨Nat.le_of_ble_eq_true rfl, Nat.le_of_ble_eq_true rfl⟩ rfl dX12_heir_51 rfl (Nat.le_of_ble_eq_true rfl) (fun r51 σ51 h => ?_)
  refine nw_if_eq (tgt := 59) C dX12_heir_54 (by decide) h (fun _ h => ?_) (fun _ h => ?_)
  · refine nw_aload_n C dX12_heir_59 rfl 0 rfl ?_
    refine nw_get (v := .ref (am 42)) C in_X12 0 ml_O rfl 42 (by decide) tw_1615 rfl mf_42 dX12_heir_60 ?_
    refine nw_iload_n C dX12_heir_63 rfl 1 rfl ?_
    refine nw_iald C 24 ml_42 dX12_heir_64 h (fun h => ?_)
    refine nw_istore_n (lv' := [(3, .int (rd σ51 42 x1)), (0, .ref (am 112)), (1, .int x1), (2, .int x2)]) C dX12_heir_65 rfl (by decide) rfl ?_
    refine nw_aload_n C dX12_heir_66 rfl 1 rfl ?_
    refine nw_get (v := .ref (am 42)) C in_X12 0 ml_O rfl 42 (by decide) tw_1615 rfl mf_42 dX12_heir_67 ?_
    refine nw_iload_n C dX12_heir_70 rfl 2 rfl ?_
    refine nw_iload_n C dX12_heir_71 rfl 3 rfl ?_
    refine nw_iast C 24 ml_42 dX12_heir_72 h ms_42 (fun h => ?_)
    refine nw_iload_n C dX12_heir_73 rfl 0 rfl ?_
    exact nm_iret C hr dX12_heir_74 h
  · refine nw_iconst (v := 0) C dX12_heir_57 (by decide) ?_
    exact nm_iret C hr dX12_heir_58 h
def B_M_heir_32   (x1 : Int32) (x2 : Int32) (z1 : Int32) (σ : CS) : Option (Int32 × CS) := bnd (f_M_bad z1 1 σ) (fun r33 σ33 => if r33 = 0 then if x1 = x2 then B_M_heir_50 x1 x2 1 σ33 else B_M_heir_50 x1 x2 0 σ33 else some (0, σ33))
set_option maxHeartbeats 4000000 in
set_option maxRecDepth 100000 in
theorem w_M_heir_32 (C : Cx g p s m args meth c A 4 cX12_heir yX12_heir.cls) (hr : meth.sig.returnType = (some .int))  {res : Int32 × CS}   (x1 : Int32) (x2 : Int32) (z1 : Int32)  (σ : CS) (h : B_M_heir_32 x1 x2 z1 σ = some res) : NMI g p l e s m args below meth c A 2 43 4 am Rr res σ [(0, .ref (am 112)), (1, .int x1), (2, .int x2)] 32 [.int z1, .ref (am 112)] := by
  unfold B_M_heir_32 at h
  refine nw_iconst (v := 1) C dX12_heir_32 (by decide) ?_
  refine nm_callVI (q0 := 0) (As := [.int z1, .int 1]) (rest := []) C h (fun _ _ e => c_M_bad e) tw_1924 kv_X12_bad ml_O rfl ⟨Nat.le_of_ble_eq_true rfl, Nat.le_of_ble_eq_true rfl⟩ rfl dX12_heir_33 rfl (Nat.le_of_ble_eq_true rfl) (fun r33 σ33 h => ?_)
  refine nw_if_ne (tgt := 57) C dX12_heir_36 (by decide) h (fun _ h => ?_) (fun _ h => ?_)
  · refine nw_aload_n C dX12_heir_39 rfl 0 rfl ?_
    refine nw_iload_n C dX12_heir_40 rfl 1 rfl ?_
    refine nw_iload_n C dX12_heir_41 rfl 2 rfl ?_
    refine nw_icmp_ne (tgt := 49) C dX12_heir_42 (by decide) h (fun _ h => ?_) (fun _ h => ?_)
    · refine nw_iconst (v := 1) C dX12_heir_45 (by decide) ?_
      refine nw_goto (tgt := 50) C dX12_heir_46 (by decide) ?_
      exact nw_lv (lv' := [(0, .ref (am 112)), (1, .int x1), (2, .int x2)]) [0, 1, 2] rfl (w_M_heir_50 C hr x1 x2 1 _ h)
    · refine nw_iconst (v := 0) C dX12_heir_49 (by decide) ?_
      exact nw_lv (lv' := [(0, .ref (am 112)), (1, .int x1), (2, .int x2)]) [0, 1, 2] rfl (w_M_heir_50 C hr x1 x2 0 _ h)
  · refine nw_iconst (v := 0) C dX12_heir_57 (by decide) ?_
    exact nm_iret C hr dX12_heir_58 h
def B_M_heir_31   (x1 : Int32) (x2 : Int32) (σ : CS) : Option (Int32 × CS) := B_M_heir_32 x1 x2 0 σ
set_option maxHeartbeats 4000000 in
set_option maxRecDepth 100000 in
theorem w_M_heir_31 (C : Cx g p s m args meth c A 4 cX12_heir yX12_heir.cls) (hr : meth.sig.returnType = (some .int))  {res : Int32 × CS}   (x1 : Int32) (x2 : Int32)  (σ : CS) (h : B_M_heir_31 x1 x2 σ = some res) : NMI g p l e s m args below meth c A 2 43 4 am Rr res σ [(0, .ref (am 112)), (1, .int x1), (2, .int x2)] 31 [.ref (am 112)] := by
  unfold B_M_heir_31 at h
  refine nw_iconst (v := 0) C dX12_heir_31 (by decide) ?_
  exact nw_lv (lv' := [(0, .ref (am 112)), (1, .int x1), (2, .int x2)]) [0, 1, 2] rfl (w_M_heir_32 C hr x1 x2 0 _ h)
def f_M_heir (p0 : Int32) (p1 : Int32) (σ : CS) : Option (Int32 × CS) := bnd (f_M_isPerson p0 (sF σ 0 0)) (fun r8 σ8 => if r8 = 0 then B_M_heir_32 p0 p1 1 σ8 else if p1 = (-1) then B_M_heir_31 p0 p1 σ8 else bnd (f_M_isPerson p1 σ8) (fun r21 σ21 => if r21 = 0 then B_M_heir_32 p0 p1 1 σ21 else B_M_heir_31 p0 p1 σ21))
set_option maxHeartbeats 4000000 in
set_option maxRecDepth 100000 in
theorem c_M_heir {l : Launch} {g : EG} {am : Nat → Nat} {Rr : va_W} {σ σ' : CS} {r : Int32} {p0 : Int32} {p1 : Int32}  (h : f_M_heir p0 p1 σ = some (r, σ')) : CmI l g yX12_heir (.code yX12_heir cX12_heir 4 (some .int)) 2 43 am Rr σ [.ref (am 112), .int p0, .int p1] r σ' := by
  refine Ct.of rfl (by decide) (Nat.le_of_ble_eq_true rfl) ?_
  intro p e s m args below meth c A C hr
  show NMI g p l e s m args below meth c A 2 43 4 am Rr (r, σ') σ [(0, .ref (am 112)), (1, .int p0), (2, .int p1)] 0 []
  unfold f_M_heir at h
  refine nw_aload_n C dX12_heir_0 rfl 0 rfl ?_
  refine nw_iconst (v := 0) C dX12_heir_1 (by decide) ?_
  refine nw_put (ty := .int) C in_X12 0 ml_O rfl 0 (by decide) tyX12 tyX12_ok nmX12 tw_1573 rfl rfl (by decide +kernel) rfl rfl (Nat.le_of_ble_eq_true rfl) dX12_heir_2 ms_0 ?_
  refine nw_aload_n C dX12_heir_5 rfl 0 rfl ?_
  refine nw_aload_n C dX12_heir_6 rfl 0 rfl ?_
  refine nw_iload_n C dX12_heir_7 rfl 1 rfl ?_
  refine nm_callVI (q0 := 0) (As := [.int p0]) (rest := [.ref (am 112)]) C h (fun _ _ e => c_M_isPerson e) tw_2172 kv_X12_isPerson ml_O rfl ⟨Nat.le_of_ble_eq_true rfl, Nat.le_of_ble_eq_true rfl⟩ rfl dX12_heir_8 rfl (Nat.le_of_ble_eq_true rfl) (fun r8 σ8 h => ?_)
  refine nw_if_eq (tgt := 27) C dX12_heir_11 (by decide) h (fun _ h => ?_) (fun _ h => ?_)
  · refine nw_iconst (v := 1) C dX12_heir_27 (by decide) ?_
    refine nw_goto (tgt := 32) C dX12_heir_28 (by decide) ?_
    exact nw_lv (lv' := [(0, .ref (am 112)), (1, .int p0), (2, .int p1)]) [0, 1, 2] rfl (w_M_heir_32 C hr p0 p1 1 _ h)
  · refine nw_iload_n C dX12_heir_14 rfl 2 rfl ?_
    refine nw_iconst (v := (-1)) C dX12_heir_15 (by decide) ?_
    refine nw_icmp_eq (tgt := 31) C dX12_heir_16 (by decide) h (fun _ h => ?_) (fun _ h => ?_)
    · exact nw_lv (lv' := [(0, .ref (am 112)), (1, .int p0), (2, .int p1)]) [0, 1, 2] rfl (w_M_heir_31 C hr p0 p1 _ h)
    · refine nw_aload_n C dX12_heir_19 rfl 0 rfl ?_
      refine nw_iload_n C dX12_heir_20 rfl 2 rfl ?_
      refine nm_callVI (q0 := 0) (As := [.int p1]) (rest := [.ref (am 112)]) C h (fun _ _ e => c_M_isPerson e) tw_2172 kv_X12_isPerson ml_O rfl ⟨Nat.le_of_ble_eq_true rfl, Nat.le_of_ble_eq_true rfl⟩ rfl dX12_heir_21 rfl (Nat.le_of_ble_eq_true rfl) (fun r21 σ21 h => ?_)
      refine nw_if_ne (tgt := 31) C dX12_heir_24 (by decide) h (fun _ h => ?_) (fun _ h => ?_)
      · refine nw_iconst (v := 1) C dX12_heir_27 (by decide) ?_
        refine nw_goto (tgt := 32) C dX12_heir_28 (by decide) ?_
        exact nw_lv (lv' := [(0, .ref (am 112)), (1, .int p0), (2, .int p1)]) [0, 1, 2] rfl (w_M_heir_32 C hr p0 p1 1 _ h)
      · exact nw_lv (lv' := [(0, .ref (am 112)), (1, .int p0), (2, .int p1)]) [0, 1, 2] rfl (w_M_heir_31 C hr p0 p1 _ h)
theorem dX12_die_0 : decode cX12_die 0 = .ok (.aload_n 0, 1) := by decide +kernel
theorem dX12_die_1 : decode cX12_die 1 = .ok (.iconst 0, 1) := by decide +kernel
theorem dX12_die_2 : decode cX12_die 2 = .ok (.putfield 253, 3) := by decide +kernel
theorem dX12_die_5 : decode cX12_die 5 = .ok (.aload_n 0, 1) := by decide +kernel
theorem dX12_die_6 : decode cX12_die 6 = .ok (.aload_n 0, 1) := by decide +kernel
theorem dX12_die_7 : decode cX12_die 7 = .ok (.iload_n 1, 1) := by decide +kernel
theorem dX12_die_8 : decode cX12_die 8 = .ok (.invokevirtual 507, 3) := by decide +kernel
theorem dX12_die_11 : decode cX12_die 11 = .ok (.ifCond .ne 7, 3) := by decide +kernel
theorem dX12_die_14 : decode cX12_die 14 = .ok (.iconst 1, 1) := by decide +kernel
theorem dX12_die_15 : decode cX12_die 15 = .ok (.goto 4, 3) := by decide +kernel
theorem dX12_die_18 : decode cX12_die 18 = .ok (.iconst 0, 1) := by decide +kernel
theorem dX12_die_19 : decode cX12_die 19 = .ok (.iconst 1, 1) := by decide +kernel
theorem dX12_die_20 : decode cX12_die 20 = .ok (.invokevirtual 265, 3) := by decide +kernel
theorem dX12_die_23 : decode cX12_die 23 = .ok (.ifCond .eq 5, 3) := by decide +kernel
theorem dX12_die_26 : decode cX12_die 26 = .ok (.iconst 0, 1) := by decide +kernel
theorem dX12_die_27 : decode cX12_die 27 = .ok (.ireturn, 1) := by decide +kernel
theorem dX12_die_28 : decode cX12_die 28 = .ok (.aload_n 0, 1) := by decide +kernel
theorem dX12_die_29 : decode cX12_die 29 = .ok (.iload_n 1, 1) := by decide +kernel
theorem dX12_die_30 : decode cX12_die 30 = .ok (.invokevirtual 510, 3) := by decide +kernel
theorem dX12_die_33 : decode cX12_die 33 = .ok (.ifCond .eq 5, 3) := by decide +kernel
theorem dX12_die_36 : decode cX12_die 36 = .ok (.iconst (-1), 1) := by decide +kernel
theorem dX12_die_37 : decode cX12_die 37 = .ok (.ireturn, 1) := by decide +kernel
theorem dX12_die_38 : decode cX12_die 38 = .ok (.aload_n 0, 1) := by decide +kernel
theorem dX12_die_39 : decode cX12_die 39 = .ok (.getfield 88, 3) := by decide +kernel
theorem dX12_die_42 : decode cX12_die 42 = .ok (.iload_n 1, 1) := by decide +kernel
theorem dX12_die_43 : decode cX12_die 43 = .ok (.aload_n 0, 1) := by decide +kernel
theorem dX12_die_44 : decode cX12_die 44 = .ok (.getfield 513, 3) := by decide +kernel
theorem dX12_die_47 : decode cX12_die 47 = .ok (.iastore, 1) := by decide +kernel
theorem dX12_die_48 : decode cX12_die 48 = .ok (.iconst 1, 1) := by decide +kernel
theorem dX12_die_49 : decode cX12_die 49 = .ok (.ireturn, 1) := by decide +kernel
def B_M_die_19   (x1 : Int32) (z1 : Int32) (σ : CS) : Option (Int32 × CS) := bnd (f_M_bad z1 1 σ) (fun r20 σ20 => if r20 = 0 then bnd (f_M_isDead x1 σ20) (fun r30 σ30 => if r30 = 0 then gix x1 40 (some (1, (wr σ30 43 x1 (σ30.1 1)))) else some ((-1), σ30)) else some (0, σ20))
set_option maxHeartbeats 4000000 in
set_option maxRecDepth 100000 in
theorem w_M_die_19 (C : Cx g p s m args meth c A 2 cX12_die yX12_die.cls) (hr : meth.sig.returnType = (some .int))  {res : Int32 × CS}   (x1 : Int32) (z1 : Int32)  (σ : CS) (h : B_M_die_19 x1 z1 σ = some res) : NMI g p l e s m args below meth c A 2 43 2 am Rr res σ [(0, .ref (am 112)), (1, .int x1)] 19 [.int z1, .ref (am 112)] := by
  unfold B_M_die_19 at h
  refine nw_iconst (v := 1) C dX12_die_19 (by decide) ?_
  refine nm_callVI (q0 := 0) (As := [.int z1, .int 1]) (rest := []) C h (fun _ _ e => c_M_bad e) tw_1924 kv_X12_bad ml_O rfl ⟨Nat.le_of_ble_eq_true rfl, Nat.le_of_ble_eq_true rfl⟩ rfl dX12_die_20 rfl (Nat.le_of_ble_eq_true rfl) (fun r20 σ20 h => ?_)
  refine nw_if_eq (tgt := 28) C dX12_die_23 (by decide) h (fun _ h => ?_) (fun _ h => ?_)
  · refine nw_aload_n C dX12_die_28 rfl 0 rfl ?_
    refine nw_iload_n C dX12_die_29 rfl 1 rfl ?_
    refine nm_callVI (q0 := 0) (As := [.int x1]) (rest := []) C h (fun _ _ e => c_M_isDead e) tw_2180 kv_X12_isDead ml_O rfl ⟨Nat.le_of_ble_eq_true rfl, Nat.le_of_ble_eq_true rfl⟩ rfl dX12_die_30 rfl (Nat.le_of_ble_eq_true rfl) (fun r30 σ30 h => ?_)
    refine nw_if_eq (tgt := 38) C dX12_die_33 (by decide) h (fun _ h => ?_) (fun _ h => ?_)
    · refine nw_aload_n C dX12_die_38 rfl 0 rfl ?_
      refine nw_get (v := .ref (am 43)) C in_X12 0 ml_O rfl 43 (by decide) tw_1616 rfl mf_43 dX12_die_39 ?_
      refine nw_iload_n C dX12_die_42 rfl 1 rfl ?_
      refine nw_aload_n C dX12_die_43 rfl 0 rfl ?_
      refine nw_get (v := .int (σ30.1 1)) C in_X12 0 ml_O rfl 1 (by decide) tw_1574 rfl mf_1 dX12_die_44 ?_
      refine nw_iast C 25 ml_43 dX12_die_47 h ms_43 (fun h => ?_)
      refine nw_iconst (v := 1) C dX12_die_48 (by decide) ?_
      exact nm_iret C hr dX12_die_49 h
    · refine nw_iconst (v := (-1)) C dX12_die_36 (by decide) ?_
      exact nm_iret C hr dX12_die_37 h
  · refine nw_iconst (v := 0) C dX12_die_26 (by decide) ?_
    exact nm_iret C hr dX12_die_27 h
def f_M_die (p0 : Int32) (σ : CS) : Option (Int32 × CS) := bnd (f_M_isPerson p0 (sF σ 0 0)) (fun r8 σ8 => if r8 = 0 then B_M_die_19 p0 1 σ8 else B_M_die_19 p0 0 σ8)
set_option maxHeartbeats 4000000 in
set_option maxRecDepth 100000 in
theorem c_M_die {l : Launch} {g : EG} {am : Nat → Nat} {Rr : va_W} {σ σ' : CS} {r : Int32} {p0 : Int32}  (h : f_M_die p0 σ = some (r, σ')) : CmI l g yX12_die (.code yX12_die cX12_die 2 (some .int)) 2 43 am Rr σ [.ref (am 112), .int p0] r σ' := by
  refine Ct.of rfl (by decide) (Nat.le_of_ble_eq_true rfl) ?_
  intro p e s m args below meth c A C hr
  show NMI g p l e s m args below meth c A 2 43 2 am Rr (r, σ') σ [(0, .ref (am 112)), (1, .int p0)] 0 []
  unfold f_M_die at h
  refine nw_aload_n C dX12_die_0 rfl 0 rfl ?_
  refine nw_iconst (v := 0) C dX12_die_1 (by decide) ?_
  refine nw_put (ty := .int) C in_X12 0 ml_O rfl 0 (by decide) tyX12 tyX12_ok nmX12 tw_1573 rfl rfl (by decide +kernel) rfl rfl (Nat.le_of_ble_eq_true rfl) dX12_die_2 ms_0 ?_
  refine nw_aload_n C dX12_die_5 rfl 0 rfl ?_
  refine nw_aload_n C dX12_die_6 rfl 0 rfl ?_
  refine nw_iload_n C dX12_die_7 rfl 1 rfl ?_
  refine nm_callVI (q0 := 0) (As := [.int p0]) (rest := [.ref (am 112)]) C h (fun _ _ e => c_M_isPerson e) tw_2172 kv_X12_isPerson ml_O rfl ⟨Nat.le_of_ble_eq_true rfl, Nat.le_of_ble_eq_true rfl⟩ rfl dX12_die_8 rfl (Nat.le_of_ble_eq_true rfl) (fun r8 σ8 h => ?_)
  refine nw_if_ne (tgt := 18) C dX12_die_11 (by decide) h (fun _ h => ?_) (fun _ h => ?_)
  · refine nw_iconst (v := 1) C dX12_die_14 (by decide) ?_
    refine nw_goto (tgt := 19) C dX12_die_15 (by decide) ?_
    exact nw_lv (lv' := [(0, .ref (am 112)), (1, .int p0)]) [0, 1] rfl (w_M_die_19 C hr p0 1 _ h)
  · refine nw_iconst (v := 0) C dX12_die_18 (by decide) ?_
    exact nw_lv (lv' := [(0, .ref (am 112)), (1, .int p0)]) [0, 1] rfl (w_M_die_19 C hr p0 0 _ h)
theorem dX12_owes_0 : decode cX12_owes 0 = .ok (.aload_n 0, 1) := by decide +kernel
theorem dX12_owes_1 : decode cX12_owes 1 = .ok (.getfield 85, 3) := by decide +kernel
theorem dX12_owes_4 : decode cX12_owes 4 = .ok (.iload_n 1, 1) := by decide +kernel
theorem dX12_owes_5 : decode cX12_owes 5 = .ok (.iaload, 1) := by decide +kernel
theorem dX12_owes_6 : decode cX12_owes 6 = .ok (.istore_n 2, 1) := by decide +kernel
theorem dX12_owes_7 : decode cX12_owes 7 = .ok (.iconst 0, 1) := by decide +kernel
theorem dX12_owes_8 : decode cX12_owes 8 = .ok (.istore_n 3, 1) := by decide +kernel
theorem dX12_owes_9 : decode cX12_owes 9 = .ok (.iload_n 3, 1) := by decide +kernel
theorem dX12_owes_10 : decode cX12_owes 10 = .ok (.aload_n 0, 1) := by decide +kernel
theorem dX12_owes_11 : decode cX12_owes 11 = .ok (.getfield 504, 3) := by decide +kernel
theorem dX12_owes_14 : decode cX12_owes 14 = .ok (.if_icmp .gt 37, 3) := by decide +kernel
theorem dX12_owes_17 : decode cX12_owes 17 = .ok (.iload_n 2, 1) := by decide +kernel
theorem dX12_owes_18 : decode cX12_owes 18 = .ok (.ifCond .lt 33, 3) := by decide +kernel
theorem dX12_owes_21 : decode cX12_owes 21 = .ok (.iload_n 2, 1) := by decide +kernel
theorem dX12_owes_22 : decode cX12_owes 22 = .ok (.iload_n 1, 1) := by decide +kernel
theorem dX12_owes_23 : decode cX12_owes 23 = .ok (.if_icmp .ne 5, 3) := by decide +kernel
theorem dX12_owes_26 : decode cX12_owes 26 = .ok (.iconst (-1), 1) := by decide +kernel
theorem dX12_owes_27 : decode cX12_owes 27 = .ok (.ireturn, 1) := by decide +kernel
theorem dX12_owes_28 : decode cX12_owes 28 = .ok (.aload_n 0, 1) := by decide +kernel
theorem dX12_owes_29 : decode cX12_owes 29 = .ok (.iload_n 2, 1) := by decide +kernel
theorem dX12_owes_30 : decode cX12_owes 30 = .ok (.invokevirtual 510, 3) := by decide +kernel
theorem dX12_owes_33 : decode cX12_owes 33 = .ok (.ifCond .ne 5, 3) := by decide +kernel
theorem dX12_owes_36 : decode cX12_owes 36 = .ok (.iload_n 2, 1) := by decide +kernel
theorem dX12_owes_37 : decode cX12_owes 37 = .ok (.ireturn, 1) := by decide +kernel
theorem dX12_owes_38 : decode cX12_owes 38 = .ok (.aload_n 0, 1) := by decide +kernel
theorem dX12_owes_39 : decode cX12_owes 39 = .ok (.getfield 85, 3) := by decide +kernel
theorem dX12_owes_42 : decode cX12_owes 42 = .ok (.iload_n 2, 1) := by decide +kernel
theorem dX12_owes_43 : decode cX12_owes 43 = .ok (.iaload, 1) := by decide +kernel
theorem dX12_owes_44 : decode cX12_owes 44 = .ok (.istore_n 2, 1) := by decide +kernel
theorem dX12_owes_45 : decode cX12_owes 45 = .ok (.iinc 3 1, 3) := by decide +kernel
theorem dX12_owes_48 : decode cX12_owes 48 = .ok (.goto (-39), 3) := by decide +kernel
theorem dX12_owes_51 : decode cX12_owes 51 = .ok (.iconst (-1), 1) := by decide +kernel
theorem dX12_owes_52 : decode cX12_owes 52 = .ok (.ireturn, 1) := by decide +kernel
def L_M_owes_9  (x1 : Int32) : Nat → Int32 → Int32 → CS → Option (Int32 × CS)
  | 0, _, _, _ => none
  | n + 1, x2, x3, σ => if (σ.1 38) < x3 then some ((-1), σ) else if x2 < 0 then some ((-1), σ) else if x2 = x1 then some ((-1), σ) else bnd (f_M_isDead x2 σ) (fun r30 σ30 => if r30 = 0 then some (x2, σ30) else gix x2 40 ((L_M_owes_9 x1 n) (rd σ30 42 x2) (x3 + 1) σ30))
set_option maxHeartbeats 4000000 in
set_option maxRecDepth 100000 in
theorem w_M_owes_9 (C : Cx g p s m args meth c A 4 cX12_owes yX12_owes.cls) (hr : meth.sig.returnType = (some .int))  {res : Int32 × CS}  (x1 : Int32)  : ∀ (n : Nat) (x2 : Int32) (x3 : Int32) (σ : CS), L_M_owes_9 x1 n x2 x3 σ = some res → NMI g p l e s m args below meth c A 1 21 4 am Rr res σ [(0, .ref (am 112)), (1, .int x1), (2, .int x2), (3, .int x3)] 9 [] := by
  intro n
  induction n with
  | zero =>
    intro x2 x3 σ h
    exact absurd (show (none : Option (Int32 × CS)) = some res from h) (by intro h9; cases h9)
  | succ n ih =>
    intro x2 x3 σ h
    rw [L_M_owes_9] at h
    refine nw_iload_n C dX12_owes_9 rfl 3 rfl ?_
    refine nw_aload_n C dX12_owes_10 rfl 0 rfl ?_
    refine nw_get (v := .int (σ.1 38)) C in_X12 0 ml_O rfl 38 (by decide) tw_1611 rfl mf_38 dX12_owes_11 ?_
    refine nw_icmp_gt (tgt := 51) C dX12_owes_14 (by decide) h (fun _ h => ?_) (fun _ h => ?_)
    · refine nw_iconst (v := (-1)) C dX12_owes_51 (by decide) ?_
      exact nm_iret C hr dX12_owes_52 h
    · refine nw_iload_n C dX12_owes_17 rfl 2 rfl ?_
      refine nw_if_lt (tgt := 51) C dX12_owes_18 (by decide) h (fun _ h => ?_) (fun _ h => ?_)
      · refine nw_iconst (v := (-1)) C dX12_owes_51 (by decide) ?_
        exact nm_iret C hr dX12_owes_52 h
      · refine nw_iload_n C dX12_owes_21 rfl 2 rfl ?_
        refine nw_iload_n C dX12_owes_22 rfl 1 rfl ?_
        refine nw_icmp_ne (tgt := 28) C dX12_owes_23 (by decide) h (fun _ h => ?_) (fun _ h => ?_)
        · refine nw_iconst (v := (-1)) C dX12_owes_26 (by decide) ?_
          exact nm_iret C hr dX12_owes_27 h
        · refine nw_aload_n C dX12_owes_28 rfl 0 rfl ?_
          refine nw_iload_n C dX12_owes_29 rfl 2 rfl ?_
          refine nm_callVI (q0 := 0) (As := [.int x2]) (rest := []) C h (fun _ _ e => c_M_isDead e) tw_2180 kv_X12_isDead ml_O rfl ⟨Nat.le_of_ble_eq_true rfl, Nat.le_of_ble_eq_true rfl⟩ rfl dX12_owes_30 rfl (Nat.le_of_ble_eq_true rfl) (fun r30 σ30 h => ?_)
          refine nw_if_ne (tgt := 38) C dX12_owes_33 (by decide) h (fun _ h => ?_) (fun _ h => ?_)
          · refine nw_iload_n C dX12_owes_36 rfl 2 rfl ?_
            exact nm_iret C hr dX12_owes_37 h
          · refine nw_aload_n C dX12_owes_38 rfl 0 rfl ?_
            refine nw_get (v := .ref (am 42)) C in_X12 0 ml_O rfl 42 (by decide) tw_1615 rfl mf_42 dX12_owes_39 ?_
            refine nw_iload_n C dX12_owes_42 rfl 2 rfl ?_
            refine nw_iald C 24 ml_42 dX12_owes_43 h (fun h => ?_)
            refine nw_istore_n (lv' := [(2, .int (rd σ30 42 x2)), (0, .ref (am 112)), (1, .int x1), (3, .int x3)]) C dX12_owes_44 rfl (by decide) rfl ?_
            refine nw_iinc (lv' := [(3, .int (x3 + 1)), (2, .int (rd σ30 42 x2)), (0, .ref (am 112)), (1, .int x1)]) C (x3 + 1) dX12_owes_45 3 rfl rfl (by decide) rfl ?_
            refine nw_goto (tgt := 9) C dX12_owes_48 (by decide) ?_
            exact nw_lv (lv' := [(0, .ref (am 112)), (1, .int x1), (2, .int (rd σ30 42 x2)), (3, .int (x3 + 1))]) [2, 3, 1, 0] rfl (ih (rd σ30 42 x2) (x3 + 1) _ h)
def f_M_owes (p0 : Int32) (σ : CS) : Option (Int32 × CS) := gix p0 40 (L_M_owes_9 p0 FU (rd σ 42 p0) 0 σ)
set_option maxHeartbeats 4000000 in
set_option maxRecDepth 100000 in
theorem c_M_owes {l : Launch} {g : EG} {am : Nat → Nat} {Rr : va_W} {σ σ' : CS} {r : Int32} {p0 : Int32}  (h : f_M_owes p0 σ = some (r, σ')) : CmI l g yX12_owes (.code yX12_owes cX12_owes 4 (some .int)) 1 21 am Rr σ [.ref (am 112), .int p0] r σ' := by
  refine Ct.of rfl (by decide) (Nat.le_of_ble_eq_true rfl) ?_
  intro p e s m args below meth c A C hr
  show NMI g p l e s m args below meth c A 1 21 4 am Rr (r, σ') σ [(0, .ref (am 112)), (1, .int p0)] 0 []
  unfold f_M_owes at h
  refine nw_aload_n C dX12_owes_0 rfl 0 rfl ?_
  refine nw_get (v := .ref (am 42)) C in_X12 0 ml_O rfl 42 (by decide) tw_1615 rfl mf_42 dX12_owes_1 ?_
  refine nw_iload_n C dX12_owes_4 rfl 1 rfl ?_
  refine nw_iald C 24 ml_42 dX12_owes_5 h (fun h => ?_)
  refine nw_istore_n (lv' := [(2, .int (rd σ 42 p0)), (0, .ref (am 112)), (1, .int p0)]) C dX12_owes_6 rfl (by decide) rfl ?_
  refine nw_iconst (v := 0) C dX12_owes_7 (by decide) ?_
  refine nw_istore_n (lv' := [(3, .int 0), (2, .int (rd σ 42 p0)), (0, .ref (am 112)), (1, .int p0)]) C dX12_owes_8 rfl (by decide) rfl ?_
  exact nw_lv (lv' := [(0, .ref (am 112)), (1, .int p0), (2, .int (rd σ 42 p0)), (3, .int 0)]) [2, 3, 1, 0] rfl (w_M_owes_9 C hr p0 FU (rd σ 42 p0) 0 _ h)
theorem dX12_told_0 : decode cX12_told 0 = .ok (.aload_n 0, 1) := by decide +kernel
theorem dX12_told_1 : decode cX12_told 1 = .ok (.iconst 0, 1) := by decide +kernel
theorem dX12_told_2 : decode cX12_told 2 = .ok (.putfield 253, 3) := by decide +kernel
theorem dX12_told_5 : decode cX12_told 5 = .ok (.aload_n 0, 1) := by decide +kernel
theorem dX12_told_6 : decode cX12_told 6 = .ok (.aload_n 0, 1) := by decide +kernel
theorem dX12_told_7 : decode cX12_told 7 = .ok (.iload_n 1, 1) := by decide +kernel
theorem dX12_told_8 : decode cX12_told 8 = .ok (.invokevirtual 507, 3) := by decide +kernel
theorem dX12_told_11 : decode cX12_told 11 = .ok (.ifCond .ne 7, 3) := by decide +kernel
theorem dX12_told_14 : decode cX12_told 14 = .ok (.iconst 1, 1) := by decide +kernel
theorem dX12_told_15 : decode cX12_told 15 = .ok (.goto 4, 3) := by decide +kernel
theorem dX12_told_18 : decode cX12_told 18 = .ok (.iconst 0, 1) := by decide +kernel
theorem dX12_told_19 : decode cX12_told 19 = .ok (.iconst 1, 1) := by decide +kernel
theorem dX12_told_20 : decode cX12_told 20 = .ok (.invokevirtual 265, 3) := by decide +kernel
theorem dX12_told_23 : decode cX12_told 23 = .ok (.ifCond .ne 25, 3) := by decide +kernel
theorem dX12_told_26 : decode cX12_told 26 = .ok (.aload_n 0, 1) := by decide +kernel
theorem dX12_told_27 : decode cX12_told 27 = .ok (.iload_n 2, 1) := by decide +kernel
theorem dX12_told_28 : decode cX12_told 28 = .ok (.iconst 0, 1) := by decide +kernel
theorem dX12_told_29 : decode cX12_told 29 = .ok (.iconst 3, 1) := by decide +kernel
theorem dX12_told_30 : decode cX12_told 30 = .ok (.invokestatic 257, 3) := by decide +kernel
theorem dX12_told_33 : decode cX12_told 33 = .ok (.ifCond .ne 7, 3) := by decide +kernel
theorem dX12_told_36 : decode cX12_told 36 = .ok (.iconst 1, 1) := by decide +kernel
theorem dX12_told_37 : decode cX12_told 37 = .ok (.goto 4, 3) := by decide +kernel
theorem dX12_told_40 : decode cX12_told 40 = .ok (.iconst 0, 1) := by decide +kernel
theorem dX12_told_41 : decode cX12_told 41 = .ok (.iconst 2, 1) := by decide +kernel
theorem dX12_told_42 : decode cX12_told 42 = .ok (.invokevirtual 265, 3) := by decide +kernel
theorem dX12_told_45 : decode cX12_told 45 = .ok (.ifCond .eq 5, 3) := by decide +kernel
theorem dX12_told_48 : decode cX12_told 48 = .ok (.iconst 0, 1) := by decide +kernel
theorem dX12_told_49 : decode cX12_told 49 = .ok (.ireturn, 1) := by decide +kernel
theorem dX12_told_50 : decode cX12_told 50 = .ok (.iload_n 2, 1) := by decide +kernel
theorem dX12_told_51 : decode cX12_told 51 = .ok (.ifCond .ne 12, 3) := by decide +kernel
theorem dX12_told_54 : decode cX12_told 54 = .ok (.aload_n 0, 1) := by decide +kernel
theorem dX12_told_55 : decode cX12_told 55 = .ok (.getfield 79, 3) := by decide +kernel
theorem dX12_told_58 : decode cX12_told 58 = .ok (.iload_n 1, 1) := by decide +kernel
theorem dX12_told_59 : decode cX12_told 59 = .ok (.iaload, 1) := by decide +kernel
theorem dX12_told_60 : decode cX12_told 60 = .ok (.goto 36, 3) := by decide +kernel
theorem dX12_told_63 : decode cX12_told 63 = .ok (.iload_n 2, 1) := by decide +kernel
theorem dX12_told_64 : decode cX12_told 64 = .ok (.iconst 1, 1) := by decide +kernel
theorem dX12_told_65 : decode cX12_told 65 = .ok (.if_icmp .ne 12, 3) := by decide +kernel
theorem dX12_told_68 : decode cX12_told 68 = .ok (.aload_n 0, 1) := by decide +kernel
theorem dX12_told_69 : decode cX12_told 69 = .ok (.getfield 82, 3) := by decide +kernel
theorem dX12_told_72 : decode cX12_told 72 = .ok (.iload_n 1, 1) := by decide +kernel
theorem dX12_told_73 : decode cX12_told 73 = .ok (.iaload, 1) := by decide +kernel
theorem dX12_told_74 : decode cX12_told 74 = .ok (.goto 22, 3) := by decide +kernel
theorem dX12_told_77 : decode cX12_told 77 = .ok (.iload_n 2, 1) := by decide +kernel
theorem dX12_told_78 : decode cX12_told 78 = .ok (.iconst 2, 1) := by decide +kernel
theorem dX12_told_79 : decode cX12_told 79 = .ok (.if_icmp .ne 12, 3) := by decide +kernel
theorem dX12_told_82 : decode cX12_told 82 = .ok (.aload_n 0, 1) := by decide +kernel
theorem dX12_told_83 : decode cX12_told 83 = .ok (.getfield 88, 3) := by decide +kernel
theorem dX12_told_86 : decode cX12_told 86 = .ok (.iload_n 1, 1) := by decide +kernel
theorem dX12_told_87 : decode cX12_told 87 = .ok (.iaload, 1) := by decide +kernel
theorem dX12_told_88 : decode cX12_told 88 = .ok (.goto 8, 3) := by decide +kernel
theorem dX12_told_91 : decode cX12_told 91 = .ok (.aload_n 0, 1) := by decide +kernel
theorem dX12_told_92 : decode cX12_told 92 = .ok (.iload_n 1, 1) := by decide +kernel
theorem dX12_told_93 : decode cX12_told 93 = .ok (.invokevirtual 516, 3) := by decide +kernel
theorem dX12_told_96 : decode cX12_told 96 = .ok (.ireturn, 1) := by decide +kernel
def B_M_told_41   (x1 : Int32) (x2 : Int32) (z1 : Int32) (σ : CS) : Option (Int32 × CS) := bnd (f_M_bad z1 2 σ) (fun r42 σ42 => if r42 = 0 then if x2 = 0 then gix x1 40 (some ((rd σ42 40 x1), σ42)) else if x2 = 1 then gix x1 40 (some ((rd σ42 41 x1), σ42)) else if x2 = 2 then gix x1 40 (some ((rd σ42 43 x1), σ42)) else bnd (f_M_owes x1 σ42) (fun r93 σ93 => some (r93, σ93)) else some (0, σ42))
set_option maxHeartbeats 4000000 in
set_option maxRecDepth 100000 in
theorem w_M_told_41 (C : Cx g p s m args meth c A 3 cX12_told yX12_told.cls) (hr : meth.sig.returnType = (some .int))  {res : Int32 × CS}   (x1 : Int32) (x2 : Int32) (z1 : Int32)  (σ : CS) (h : B_M_told_41 x1 x2 z1 σ = some res) : NMI g p l e s m args below meth c A 2 44 3 am Rr res σ [(0, .ref (am 112)), (1, .int x1), (2, .int x2)] 41 [.int z1, .ref (am 112)] := by
  unfold B_M_told_41 at h
  refine nw_iconst (v := 2) C dX12_told_41 (by decide) ?_
  refine nm_callVI (q0 := 0) (As := [.int z1, .int 2]) (rest := []) C h (fun _ _ e => c_M_bad e) tw_1924 kv_X12_bad ml_O rfl ⟨Nat.le_of_ble_eq_true rfl, Nat.le_of_ble_eq_true rfl⟩ rfl dX12_told_42 rfl (Nat.le_of_ble_eq_true rfl) (fun r42 σ42 h => ?_)
  refine nw_if_eq (tgt := 50) C dX12_told_45 (by decide) h (fun _ h => ?_) (fun _ h => ?_)
  · refine nw_iload_n C dX12_told_50 rfl 2 rfl ?_
    refine nw_if_ne (tgt := 63) C dX12_told_51 (by decide) h (fun _ h => ?_) (fun _ h => ?_)
    · refine nw_aload_n C dX12_told_54 rfl 0 rfl ?_
      refine nw_get (v := .ref (am 40)) C in_X12 0 ml_O rfl 40 (by decide) tw_1613 rfl mf_40 dX12_told_55 ?_
      refine nw_iload_n C dX12_told_58 rfl 1 rfl ?_
      refine nw_iald C 22 ml_40 dX12_told_59 h (fun h => ?_)
      refine nw_goto (tgt := 96) C dX12_told_60 (by decide) ?_
      exact nm_iret C hr dX12_told_96 h
    · refine nw_iload_n C dX12_told_63 rfl 2 rfl ?_
      refine nw_iconst (v := 1) C dX12_told_64 (by decide) ?_
      refine nw_icmp_ne (tgt := 77) C dX12_told_65 (by decide) h (fun _ h => ?_) (fun _ h => ?_)
      · refine nw_aload_n C dX12_told_68 rfl 0 rfl ?_
        refine nw_get (v := .ref (am 41)) C in_X12 0 ml_O rfl 41 (by decide) tw_1614 rfl mf_41 dX12_told_69 ?_
        refine nw_iload_n C dX12_told_72 rfl 1 rfl ?_
        refine nw_iald C 23 ml_41 dX12_told_73 h (fun h => ?_)
        refine nw_goto (tgt := 96) C dX12_told_74 (by decide) ?_
        exact nm_iret C hr dX12_told_96 h
      · refine nw_iload_n C dX12_told_77 rfl 2 rfl ?_
        refine nw_iconst (v := 2) C dX12_told_78 (by decide) ?_
        refine nw_icmp_ne (tgt := 91) C dX12_told_79 (by decide) h (fun _ h => ?_) (fun _ h => ?_)
        · refine nw_aload_n C dX12_told_82 rfl 0 rfl ?_
          refine nw_get (v := .ref (am 43)) C in_X12 0 ml_O rfl 43 (by decide) tw_1616 rfl mf_43 dX12_told_83 ?_
          refine nw_iload_n C dX12_told_86 rfl 1 rfl ?_
          refine nw_iald C 25 ml_43 dX12_told_87 h (fun h => ?_)
          refine nw_goto (tgt := 96) C dX12_told_88 (by decide) ?_
          exact nm_iret C hr dX12_told_96 h
        · refine nw_aload_n C dX12_told_91 rfl 0 rfl ?_
          refine nw_iload_n C dX12_told_92 rfl 1 rfl ?_
          refine nm_callVI (q0 := 0) (As := [.int x1]) (rest := []) C h (fun _ _ e => c_M_owes e) tw_2188 kv_X12_owes ml_O rfl ⟨Nat.le_of_ble_eq_true rfl, Nat.le_of_ble_eq_true rfl⟩ rfl dX12_told_93 rfl (Nat.le_of_ble_eq_true rfl) (fun r93 σ93 h => ?_)
          exact nm_iret C hr dX12_told_96 h
  · refine nw_iconst (v := 0) C dX12_told_48 (by decide) ?_
    exact nm_iret C hr dX12_told_49 h
def B_M_told_19   (x1 : Int32) (x2 : Int32) (z1 : Int32) (σ : CS) : Option (Int32 × CS) := bnd (f_M_bad z1 1 σ) (fun r20 σ20 => if r20 = 0 then bnd (f_M_in x2 0 3 σ20) (fun r30 σ30 => if r30 = 0 then B_M_told_41 x1 x2 1 σ30 else B_M_told_41 x1 x2 0 σ30) else some (0, σ20))
set_option maxHeartbeats 4000000 in
set_option maxRecDepth 100000 in
theorem w_M_told_19 (C : Cx g p s m args meth c A 3 cX12_told yX12_told.cls) (hr : meth.sig.returnType = (some .int))  {res : Int32 × CS}   (x1 : Int32) (x2 : Int32) (z1 : Int32)  (σ : CS) (h : B_M_told_19 x1 x2 z1 σ = some res) : NMI g p l e s m args below meth c A 2 44 3 am Rr res σ [(0, .ref (am 112)), (1, .int x1), (2, .int x2)] 19 [.int z1, .ref (am 112)] := by
  unfold B_M_told_19 at h
  refine nw_iconst (v := 1) C dX12_told_19 (by decide) ?_
  refine nm_callVI (q0 := 0) (As := [.int z1, .int 1]) (rest := []) C h (fun _ _ e => c_M_bad e) tw_1924 kv_X12_bad ml_O rfl ⟨Nat.le_of_ble_eq_true rfl, Nat.le_of_ble_eq_true rfl⟩ rfl dX12_told_20 rfl (Nat.le_of_ble_eq_true rfl) (fun r20 σ20 h => ?_)
  refine nw_if_ne (tgt := 48) C dX12_told_23 (by decide) h (fun _ h => ?_) (fun _ h => ?_)
  · refine nw_aload_n C dX12_told_26 rfl 0 rfl ?_
    refine nw_iload_n C dX12_told_27 rfl 2 rfl ?_
    refine nw_iconst (v := 0) C dX12_told_28 (by decide) ?_
    refine nw_iconst (v := 3) C dX12_told_29 (by decide) ?_
    refine nm_callSI  (As := [.int x2, .int 0, .int 3]) (rest := [.ref (am 112)]) C h (fun _ _ e => c_M_in e) tw_1918 ks_X12_in ⟨Nat.le_of_ble_eq_true rfl, Nat.le_of_ble_eq_true rfl⟩ rfl dX12_told_30 rfl (Nat.le_of_ble_eq_true rfl) (fun r30 σ30 h => ?_)
    refine nw_if_ne (tgt := 40) C dX12_told_33 (by decide) h (fun _ h => ?_) (fun _ h => ?_)
    · refine nw_iconst (v := 1) C dX12_told_36 (by decide) ?_
      refine nw_goto (tgt := 41) C dX12_told_37 (by decide) ?_
      exact nw_lv (lv' := [(0, .ref (am 112)), (1, .int x1), (2, .int x2)]) [0, 1, 2] rfl (w_M_told_41 C hr x1 x2 1 _ h)
    · refine nw_iconst (v := 0) C dX12_told_40 (by decide) ?_
      exact nw_lv (lv' := [(0, .ref (am 112)), (1, .int x1), (2, .int x2)]) [0, 1, 2] rfl (w_M_told_41 C hr x1 x2 0 _ h)
  · refine nw_iconst (v := 0) C dX12_told_48 (by decide) ?_
    exact nm_iret C hr dX12_told_49 h
def f_M_told (p0 : Int32) (p1 : Int32) (σ : CS) : Option (Int32 × CS) := bnd (f_M_isPerson p0 (sF σ 0 0)) (fun r8 σ8 => if r8 = 0 then B_M_told_19 p0 p1 1 σ8 else B_M_told_19 p0 p1 0 σ8)
set_option maxHeartbeats 4000000 in
set_option maxRecDepth 100000 in
theorem c_M_told {l : Launch} {g : EG} {am : Nat → Nat} {Rr : va_W} {σ σ' : CS} {r : Int32} {p0 : Int32} {p1 : Int32}  (h : f_M_told p0 p1 σ = some (r, σ')) : CmI l g yX12_told (.code yX12_told cX12_told 3 (some .int)) 2 44 am Rr σ [.ref (am 112), .int p0, .int p1] r σ' := by
  refine Ct.of rfl (by decide) (Nat.le_of_ble_eq_true rfl) ?_
  intro p e s m args below meth c A C hr
  show NMI g p l e s m args below meth c A 2 44 3 am Rr (r, σ') σ [(0, .ref (am 112)), (1, .int p0), (2, .int p1)] 0 []
  unfold f_M_told at h
  refine nw_aload_n C dX12_told_0 rfl 0 rfl ?_
  refine nw_iconst (v := 0) C dX12_told_1 (by decide) ?_
  refine nw_put (ty := .int) C in_X12 0 ml_O rfl 0 (by decide) tyX12 tyX12_ok nmX12 tw_1573 rfl rfl (by decide +kernel) rfl rfl (Nat.le_of_ble_eq_true rfl) dX12_told_2 ms_0 ?_
  refine nw_aload_n C dX12_told_5 rfl 0 rfl ?_
  refine nw_aload_n C dX12_told_6 rfl 0 rfl ?_
  refine nw_iload_n C dX12_told_7 rfl 1 rfl ?_
  refine nm_callVI (q0 := 0) (As := [.int p0]) (rest := [.ref (am 112)]) C h (fun _ _ e => c_M_isPerson e) tw_2172 kv_X12_isPerson ml_O rfl ⟨Nat.le_of_ble_eq_true rfl, Nat.le_of_ble_eq_true rfl⟩ rfl dX12_told_8 rfl (Nat.le_of_ble_eq_true rfl) (fun r8 σ8 h => ?_)
  refine nw_if_ne (tgt := 18) C dX12_told_11 (by decide) h (fun _ h => ?_) (fun _ h => ?_)
  · refine nw_iconst (v := 1) C dX12_told_14 (by decide) ?_
    refine nw_goto (tgt := 19) C dX12_told_15 (by decide) ?_
    exact nw_lv (lv' := [(0, .ref (am 112)), (1, .int p0), (2, .int p1)]) [0, 1, 2] rfl (w_M_told_19 C hr p0 p1 1 _ h)
  · refine nw_iconst (v := 0) C dX12_told_18 (by decide) ?_
    exact nw_lv (lv' := [(0, .ref (am 112)), (1, .int p0), (2, .int p1)]) [0, 1, 2] rfl (w_M_told_19 C hr p0 p1 0 _ h)
theorem dX12_warden_0 : decode cX12_warden 0 = .ok (.aload_n 0, 1) := by decide +kernel
theorem dX12_warden_1 : decode cX12_warden 1 = .ok (.iconst 0, 1) := by decide +kernel
theorem dX12_warden_2 : decode cX12_warden 2 = .ok (.putfield 253, 3) := by decide +kernel
theorem dX12_warden_5 : decode cX12_warden 5 = .ok (.aload_n 0, 1) := by decide +kernel
theorem dX12_warden_6 : decode cX12_warden 6 = .ok (.aload_n 0, 1) := by decide +kernel
theorem dX12_warden_7 : decode cX12_warden 7 = .ok (.iload_n 1, 1) := by decide +kernel
theorem dX12_warden_8 : decode cX12_warden 8 = .ok (.invokevirtual 507, 3) := by decide +kernel
theorem dX12_warden_11 : decode cX12_warden 11 = .ok (.ifCond .ne 7, 3) := by decide +kernel
theorem dX12_warden_14 : decode cX12_warden 14 = .ok (.iconst 1, 1) := by decide +kernel
theorem dX12_warden_15 : decode cX12_warden 15 = .ok (.goto 4, 3) := by decide +kernel
theorem dX12_warden_18 : decode cX12_warden 18 = .ok (.iconst 0, 1) := by decide +kernel
theorem dX12_warden_19 : decode cX12_warden 19 = .ok (.iconst 1, 1) := by decide +kernel
theorem dX12_warden_20 : decode cX12_warden 20 = .ok (.invokevirtual 265, 3) := by decide +kernel
theorem dX12_warden_23 : decode cX12_warden 23 = .ok (.ifCond .ne 36, 3) := by decide +kernel
theorem dX12_warden_26 : decode cX12_warden 26 = .ok (.aload_n 0, 1) := by decide +kernel
theorem dX12_warden_27 : decode cX12_warden 27 = .ok (.iload_n 2, 1) := by decide +kernel
theorem dX12_warden_28 : decode cX12_warden 28 = .ok (.iconst 1, 1) := by decide +kernel
theorem dX12_warden_29 : decode cX12_warden 29 = .ok (.bipush 9, 2) := by decide +kernel
theorem dX12_warden_31 : decode cX12_warden 31 = .ok (.invokestatic 257, 3) := by decide +kernel
theorem dX12_warden_34 : decode cX12_warden 34 = .ok (.ifCond .eq 13, 3) := by decide +kernel
theorem dX12_warden_37 : decode cX12_warden 37 = .ok (.iload_n 3, 1) := by decide +kernel
theorem dX12_warden_38 : decode cX12_warden 38 = .ok (.iconst 0, 1) := by decide +kernel
theorem dX12_warden_39 : decode cX12_warden 39 = .ok (.bipush 50, 2) := by decide +kernel
theorem dX12_warden_41 : decode cX12_warden 41 = .ok (.invokestatic 257, 3) := by decide +kernel
theorem dX12_warden_44 : decode cX12_warden 44 = .ok (.ifCond .ne 7, 3) := by decide +kernel
theorem dX12_warden_47 : decode cX12_warden 47 = .ok (.iconst 1, 1) := by decide +kernel
theorem dX12_warden_48 : decode cX12_warden 48 = .ok (.goto 4, 3) := by decide +kernel
theorem dX12_warden_51 : decode cX12_warden 51 = .ok (.iconst 0, 1) := by decide +kernel
theorem dX12_warden_52 : decode cX12_warden 52 = .ok (.iconst 2, 1) := by decide +kernel
theorem dX12_warden_53 : decode cX12_warden 53 = .ok (.invokevirtual 265, 3) := by decide +kernel
theorem dX12_warden_56 : decode cX12_warden 56 = .ok (.ifCond .eq 5, 3) := by decide +kernel
theorem dX12_warden_59 : decode cX12_warden 59 = .ok (.iconst 0, 1) := by decide +kernel
theorem dX12_warden_60 : decode cX12_warden 60 = .ok (.ireturn, 1) := by decide +kernel
theorem dX12_warden_61 : decode cX12_warden 61 = .ok (.aload_n 0, 1) := by decide +kernel
theorem dX12_warden_62 : decode cX12_warden 62 = .ok (.getfield 519, 3) := by decide +kernel
theorem dX12_warden_65 : decode cX12_warden 65 = .ok (.bipush 6, 2) := by decide +kernel
theorem dX12_warden_67 : decode cX12_warden 67 = .ok (.if_icmp .ne 5, 3) := by decide +kernel
theorem dX12_warden_70 : decode cX12_warden 70 = .ok (.iconst (-1), 1) := by decide +kernel
theorem dX12_warden_71 : decode cX12_warden 71 = .ok (.ireturn, 1) := by decide +kernel
theorem dX12_warden_72 : decode cX12_warden 72 = .ok (.aload_n 0, 1) := by decide +kernel
theorem dX12_warden_73 : decode cX12_warden 73 = .ok (.getfield 91, 3) := by decide +kernel
theorem dX12_warden_76 : decode cX12_warden 76 = .ok (.aload_n 0, 1) := by decide +kernel
theorem dX12_warden_77 : decode cX12_warden 77 = .ok (.getfield 519, 3) := by decide +kernel
theorem dX12_warden_80 : decode cX12_warden 80 = .ok (.iload_n 1, 1) := by decide +kernel
theorem dX12_warden_81 : decode cX12_warden 81 = .ok (.iastore, 1) := by decide +kernel
theorem dX12_warden_82 : decode cX12_warden 82 = .ok (.aload_n 0, 1) := by decide +kernel
theorem dX12_warden_83 : decode cX12_warden 83 = .ok (.getfield 94, 3) := by decide +kernel
theorem dX12_warden_86 : decode cX12_warden 86 = .ok (.aload_n 0, 1) := by decide +kernel
theorem dX12_warden_87 : decode cX12_warden 87 = .ok (.getfield 519, 3) := by decide +kernel
theorem dX12_warden_90 : decode cX12_warden 90 = .ok (.iload_n 2, 1) := by decide +kernel
theorem dX12_warden_91 : decode cX12_warden 91 = .ok (.iastore, 1) := by decide +kernel
theorem dX12_warden_92 : decode cX12_warden 92 = .ok (.aload_n 0, 1) := by decide +kernel
theorem dX12_warden_93 : decode cX12_warden 93 = .ok (.getfield 97, 3) := by decide +kernel
theorem dX12_warden_96 : decode cX12_warden 96 = .ok (.aload_n 0, 1) := by decide +kernel
theorem dX12_warden_97 : decode cX12_warden 97 = .ok (.getfield 519, 3) := by decide +kernel
theorem dX12_warden_100 : decode cX12_warden 100 = .ok (.iload_n 3, 1) := by decide +kernel
theorem dX12_warden_101 : decode cX12_warden 101 = .ok (.iastore, 1) := by decide +kernel
theorem dX12_warden_102 : decode cX12_warden 102 = .ok (.aload_n 0, 1) := by decide +kernel
theorem dX12_warden_103 : decode cX12_warden 103 = .ok (.dup, 1) := by decide +kernel
theorem dX12_warden_104 : decode cX12_warden 104 = .ok (.getfield 519, 3) := by decide +kernel
theorem dX12_warden_107 : decode cX12_warden 107 = .ok (.iconst 1, 1) := by decide +kernel
theorem dX12_warden_108 : decode cX12_warden 108 = .ok (.iadd, 1) := by decide +kernel
theorem dX12_warden_109 : decode cX12_warden 109 = .ok (.putfield 519, 3) := by decide +kernel
theorem dX12_warden_112 : decode cX12_warden 112 = .ok (.aload_n 0, 1) := by decide +kernel
theorem dX12_warden_113 : decode cX12_warden 113 = .ok (.getfield 519, 3) := by decide +kernel
theorem dX12_warden_116 : decode cX12_warden 116 = .ok (.iconst 1, 1) := by decide +kernel
theorem dX12_warden_117 : decode cX12_warden 117 = .ok (.isub, 1) := by decide +kernel
theorem dX12_warden_118 : decode cX12_warden 118 = .ok (.ireturn, 1) := by decide +kernel
def B_M_warden_52   (x1 : Int32) (x2 : Int32) (x3 : Int32) (z1 : Int32) (σ : CS) : Option (Int32 × CS) := bnd (f_M_bad z1 2 σ) (fun r53 σ53 => if r53 = 0 then if (σ53.1 44) = 6 then some ((-1), σ53) else gix (σ53.1 44) 6 (gix (σ53.1 44) 6 (gix (σ53.1 44) 6 (some ((((σ53.1 44) + 1) - 1), (sF (wr (wr (wr σ53 45 (σ53.1 44) x1) 46 (σ53.1 44) x2) 47 (σ53.1 44) x3) 44 ((σ53.1 44) + 1)))))) else some (0, σ53))
set_option maxHeartbeats 4000000 in
set_option maxRecDepth 100000 in
theorem w_M_warden_52 (C : Cx g p s m args meth c A 4 cX12_warden yX12_warden.cls) (hr : meth.sig.returnType = (some .int))  {res : Int32 × CS}   (x1 : Int32) (x2 : Int32) (x3 : Int32) (z1 : Int32)  (σ : CS) (h : B_M_warden_52 x1 x2 x3 z1 σ = some res) : NMI g p l e s m args below meth c A 2 43 4 am Rr res σ [(0, .ref (am 112)), (1, .int x1), (2, .int x2), (3, .int x3)] 52 [.int z1, .ref (am 112)] := by
  unfold B_M_warden_52 at h
  refine nw_iconst (v := 2) C dX12_warden_52 (by decide) ?_
  refine nm_callVI (q0 := 0) (As := [.int z1, .int 2]) (rest := []) C h (fun _ _ e => c_M_bad e) tw_1924 kv_X12_bad ml_O rfl ⟨Nat.le_of_ble_eq_true rfl, Nat.le_of_ble_eq_true rfl⟩ rfl dX12_warden_53 rfl (Nat.le_of_ble_eq_true rfl) (fun r53 σ53 h => ?_)
  refine nw_if_eq (tgt := 61) C dX12_warden_56 (by decide) h (fun _ h => ?_) (fun _ h => ?_)
  · refine nw_aload_n C dX12_warden_61 rfl 0 rfl ?_
    refine nw_get (v := .int (σ53.1 44)) C in_X12 0 ml_O rfl 44 (by decide) tw_1617 rfl mf_44 dX12_warden_62 ?_
    refine nw_bipush (v := 6) C dX12_warden_65 (by decide) ?_
    refine nw_icmp_ne (tgt := 72) C dX12_warden_67 (by decide) h (fun _ h => ?_) (fun _ h => ?_)
    · refine nw_iconst (v := (-1)) C dX12_warden_70 (by decide) ?_
      exact nm_iret C hr dX12_warden_71 h
    · refine nw_aload_n C dX12_warden_72 rfl 0 rfl ?_
      refine nw_get (v := .ref (am 45)) C in_X12 0 ml_O rfl 45 (by decide) tw_1618 rfl mf_45 dX12_warden_73 ?_
      refine nw_aload_n C dX12_warden_76 rfl 0 rfl ?_
      refine nw_get (v := .int (σ53.1 44)) C in_X12 0 ml_O rfl 44 (by decide) tw_1617 rfl mf_44 dX12_warden_77 ?_
      refine nw_iload_n C dX12_warden_80 rfl 1 rfl ?_
      refine nw_iast C 26 ml_45 dX12_warden_81 h ms_45 (fun h => ?_)
      refine nw_aload_n C dX12_warden_82 rfl 0 rfl ?_
      refine nw_get (v := .ref (am 46)) C in_X12 0 ml_O rfl 46 (by decide) tw_1619 rfl mf_46 dX12_warden_83 ?_
      refine nw_aload_n C dX12_warden_86 rfl 0 rfl ?_
      refine nw_get (v := .int (σ53.1 44)) C in_X12 0 ml_O rfl 44 (by decide) tw_1617 rfl rfl dX12_warden_87 ?_
      refine nw_iload_n C dX12_warden_90 rfl 2 rfl ?_
      refine nw_iast C 27 ml_46 dX12_warden_91 h ms_46 (fun h => ?_)
      refine nw_aload_n C dX12_warden_92 rfl 0 rfl ?_
      refine nw_get (v := .ref (am 47)) C in_X12 0 ml_O rfl 47 (by decide) tw_1620 rfl mf_47 dX12_warden_93 ?_
      refine nw_aload_n C dX12_warden_96 rfl 0 rfl ?_
      refine nw_get (v := .int (σ53.1 44)) C in_X12 0 ml_O rfl 44 (by decide) tw_1617 rfl rfl dX12_warden_97 ?_
      refine nw_iload_n C dX12_warden_100 rfl 3 rfl ?_
      refine nw_iast C 28 ml_47 dX12_warden_101 h ms_47 (fun h => ?_)
      refine nw_aload_n C dX12_warden_102 rfl 0 rfl ?_
      refine nw_dup C dX12_warden_103 rfl ?_
      refine nw_get (v := .int (σ53.1 44)) C in_X12 0 ml_O rfl 44 (by decide) tw_1617 rfl rfl dX12_warden_104 ?_
      refine nw_iconst (v := 1) C dX12_warden_107 (by decide) ?_
      refine nw_iadd C dX12_warden_108 ?_
      refine nw_put (ty := .int) C in_X12 0 ml_O rfl 44 (by decide) tyX12 tyX12_ok nmX12 tw_1617 rfl rfl (by decide +kernel) rfl rfl (Nat.le_of_ble_eq_true rfl) dX12_warden_109 ms_44 ?_
      refine nw_aload_n C dX12_warden_112 rfl 0 rfl ?_
      refine nw_get (v := .int ((σ53.1 44) + 1)) C in_X12 0 ml_O rfl 44 (by decide) tw_1617 rfl rfl dX12_warden_113 ?_
      refine nw_iconst (v := 1) C dX12_warden_116 (by decide) ?_
      refine nw_isub C dX12_warden_117 ?_
      exact nm_iret C hr dX12_warden_118 h
  · refine nw_iconst (v := 0) C dX12_warden_59 (by decide) ?_
    exact nm_iret C hr dX12_warden_60 h
def B_M_warden_19   (x1 : Int32) (x2 : Int32) (x3 : Int32) (z1 : Int32) (σ : CS) : Option (Int32 × CS) := bnd (f_M_bad z1 1 σ) (fun r20 σ20 => if r20 = 0 then bnd (f_M_in x2 1 9 σ20) (fun r31 σ31 => if r31 = 0 then B_M_warden_52 x1 x2 x3 1 σ31 else bnd (f_M_in x3 0 50 σ31) (fun r41 σ41 => if r41 = 0 then B_M_warden_52 x1 x2 x3 1 σ41 else B_M_warden_52 x1 x2 x3 0 σ41)) else some (0, σ20))
set_option maxHeartbeats 4000000 in
set_option maxRecDepth 100000 in
theorem w_M_warden_19 (C : Cx g p s m args meth c A 4 cX12_warden yX12_warden.cls) (hr : meth.sig.returnType = (some .int))  {res : Int32 × CS}   (x1 : Int32) (x2 : Int32) (x3 : Int32) (z1 : Int32)  (σ : CS) (h : B_M_warden_19 x1 x2 x3 z1 σ = some res) : NMI g p l e s m args below meth c A 2 43 4 am Rr res σ [(0, .ref (am 112)), (1, .int x1), (2, .int x2), (3, .int x3)] 19 [.int z1, .ref (am 112)] := by
  unfold B_M_warden_19 at h
  refine nw_iconst (v := 1) C dX12_warden_19 (by decide) ?_
  refine nm_callVI (q0 := 0) (As := [.int z1, .int 1]) (rest := []) C h (fun _ _ e => c_M_bad e) tw_1924 kv_X12_bad ml_O rfl ⟨Nat.le_of_ble_eq_true rfl, Nat.le_of_ble_eq_true rfl⟩ rfl dX12_warden_20 rfl (Nat.le_of_ble_eq_true rfl) (fun r20 σ20 h => ?_)
  refine nw_if_ne (tgt := 59) C dX12_warden_23 (by decide) h (fun _ h => ?_) (fun _ h => ?_)
  · refine nw_aload_n C dX12_warden_26 rfl 0 rfl ?_
    refine nw_iload_n C dX12_warden_27 rfl 2 rfl ?_
    refine nw_iconst (v := 1) C dX12_warden_28 (by decide) ?_
    refine nw_bipush (v := 9) C dX12_warden_29 (by decide) ?_
    refine nm_callSI  (As := [.int x2, .int 1, .int 9]) (rest := [.ref (am 112)]) C h (fun _ _ e => c_M_in e) tw_1918 ks_X12_in ⟨Nat.le_of_ble_eq_true rfl, Nat.le_of_ble_eq_true rfl⟩ rfl dX12_warden_31 rfl (Nat.le_of_ble_eq_true rfl) (fun r31 σ31 h => ?_)
    refine nw_if_eq (tgt := 47) C dX12_warden_34 (by decide) h (fun _ h => ?_) (fun _ h => ?_)
    · refine nw_iconst (v := 1) C dX12_warden_47 (by decide) ?_
      refine nw_goto (tgt := 52) C dX12_warden_48 (by decide) ?_
      exact nw_lv (lv' := [(0, .ref (am 112)), (1, .int x1), (2, .int x2), (3, .int x3)]) [0, 1, 2, 3] rfl (w_M_warden_52 C hr x1 x2 x3 1 _ h)
    · refine nw_iload_n C dX12_warden_37 rfl 3 rfl ?_
      refine nw_iconst (v := 0) C dX12_warden_38 (by decide) ?_
      refine nw_bipush (v := 50) C dX12_warden_39 (by decide) ?_
      refine nm_callSI  (As := [.int x3, .int 0, .int 50]) (rest := [.ref (am 112)]) C h (fun _ _ e => c_M_in e) tw_1918 ks_X12_in ⟨Nat.le_of_ble_eq_true rfl, Nat.le_of_ble_eq_true rfl⟩ rfl dX12_warden_41 rfl (Nat.le_of_ble_eq_true rfl) (fun r41 σ41 h => ?_)
      refine nw_if_ne (tgt := 51) C dX12_warden_44 (by decide) h (fun _ h => ?_) (fun _ h => ?_)
      · refine nw_iconst (v := 1) C dX12_warden_47 (by decide) ?_
        refine nw_goto (tgt := 52) C dX12_warden_48 (by decide) ?_
        exact nw_lv (lv' := [(0, .ref (am 112)), (1, .int x1), (2, .int x2), (3, .int x3)]) [0, 1, 2, 3] rfl (w_M_warden_52 C hr x1 x2 x3 1 _ h)
      · refine nw_iconst (v := 0) C dX12_warden_51 (by decide) ?_
        exact nw_lv (lv' := [(0, .ref (am 112)), (1, .int x1), (2, .int x2), (3, .int x3)]) [0, 1, 2, 3] rfl (w_M_warden_52 C hr x1 x2 x3 0 _ h)
  · refine nw_iconst (v := 0) C dX12_warden_59 (by decide) ?_
    exact nm_iret C hr dX12_warden_60 h
def f_M_warden (p0 : Int32) (p1 : Int32) (p2 : Int32) (σ : CS) : Option (Int32 × CS) := bnd (f_M_isPerson p0 (sF σ 0 0)) (fun r8 σ8 => if r8 = 0 then B_M_warden_19 p0 p1 p2 1 σ8 else B_M_warden_19 p0 p1 p2 0 σ8)
set_option maxHeartbeats 4000000 in
set_option maxRecDepth 100000 in
theorem c_M_warden {l : Launch} {g : EG} {am : Nat → Nat} {Rr : va_W} {σ σ' : CS} {r : Int32} {p0 : Int32} {p1 : Int32} {p2 : Int32}  (h : f_M_warden p0 p1 p2 σ = some (r, σ')) : CmI l g yX12_warden (.code yX12_warden cX12_warden 4 (some .int)) 2 43 am Rr σ [.ref (am 112), .int p0, .int p1, .int p2] r σ' := by
  refine Ct.of rfl (by decide) (Nat.le_of_ble_eq_true rfl) ?_
  intro p e s m args below meth c A C hr
  show NMI g p l e s m args below meth c A 2 43 4 am Rr (r, σ') σ [(0, .ref (am 112)), (1, .int p0), (2, .int p1), (3, .int p2)] 0 []
  unfold f_M_warden at h
  refine nw_aload_n C dX12_warden_0 rfl 0 rfl ?_
  refine nw_iconst (v := 0) C dX12_warden_1 (by decide) ?_
  refine nw_put (ty := .int) C in_X12 0 ml_O rfl 0 (by decide) tyX12 tyX12_ok nmX12 tw_1573 rfl rfl (by decide +kernel) rfl rfl (Nat.le_of_ble_eq_true rfl) dX12_warden_2 ms_0 ?_
  refine nw_aload_n C dX12_warden_5 rfl 0 rfl ?_
  refine nw_aload_n C dX12_warden_6 rfl 0 rfl ?_
  refine nw_iload_n C dX12_warden_7 rfl 1 rfl ?_
  refine nm_callVI (q0 := 0) (As := [.int p0]) (rest := [.ref (am 112)]) C h (fun _ _ e => c_M_isPerson e) tw_2172 kv_X12_isPerson ml_O rfl ⟨Nat.le_of_ble_eq_true rfl, Nat.le_of_ble_eq_true rfl⟩ rfl dX12_warden_8 rfl (Nat.le_of_ble_eq_true rfl) (fun r8 σ8 h => ?_)
  refine nw_if_ne (tgt := 18) C dX12_warden_11 (by decide) h (fun _ h => ?_) (fun _ h => ?_)
  · refine nw_iconst (v := 1) C dX12_warden_14 (by decide) ?_
    refine nw_goto (tgt := 19) C dX12_warden_15 (by decide) ?_
    exact nw_lv (lv' := [(0, .ref (am 112)), (1, .int p0), (2, .int p1), (3, .int p2)]) [0, 1, 2, 3] rfl (w_M_warden_19 C hr p0 p1 p2 1 _ h)
  · refine nw_iconst (v := 0) C dX12_warden_18 (by decide) ?_
    exact nw_lv (lv' := [(0, .ref (am 112)), (1, .int p0), (2, .int p1), (3, .int p2)]) [0, 1, 2, 3] rfl (w_M_warden_19 C hr p0 p1 p2 0 _ h)
theorem dX12_deed_0 : decode cX12_deed 0 = .ok (.aload_n 0, 1) := by decide +kernel
theorem dX12_deed_1 : decode cX12_deed 1 = .ok (.iconst 0, 1) := by decide +kernel
theorem dX12_deed_2 : decode cX12_deed 2 = .ok (.putfield 253, 3) := by decide +kernel
theorem dX12_deed_5 : decode cX12_deed 5 = .ok (.iload_n 2, 1) := by decide +kernel
theorem dX12_deed_6 : decode cX12_deed 6 = .ok (.iconst 0, 1) := by decide +kernel
theorem dX12_deed_7 : decode cX12_deed 7 = .ok (.iconst 5, 1) := by decide +kernel
theorem dX12_deed_8 : decode cX12_deed 8 = .ok (.invokestatic 257, 3) := by decide +kernel
theorem dX12_deed_11 : decode cX12_deed 11 = .ok (.ifCond .eq 37, 3) := by decide +kernel
theorem dX12_deed_14 : decode cX12_deed 14 = .ok (.iload_n 3, 1) := by decide +kernel
theorem dX12_deed_15 : decode cX12_deed 15 = .ok (.iload 4, 2) := by decide +kernel
theorem dX12_deed_17 : decode cX12_deed 17 = .ok (.invokestatic 261, 3) := by decide +kernel
theorem dX12_deed_20 : decode cX12_deed 20 = .ok (.ifCond .eq 28, 3) := by decide +kernel
theorem dX12_deed_23 : decode cX12_deed 23 = .ok (.iload 5, 2) := by decide +kernel
theorem dX12_deed_25 : decode cX12_deed 25 = .ok (.iconst 0, 1) := by decide +kernel
theorem dX12_deed_26 : decode cX12_deed 26 = .ok (.aload_n 0, 1) := by decide +kernel
theorem dX12_deed_27 : decode cX12_deed 27 = .ok (.getfield 513, 3) := by decide +kernel
theorem dX12_deed_30 : decode cX12_deed 30 = .ok (.invokestatic 257, 3) := by decide +kernel
theorem dX12_deed_33 : decode cX12_deed 33 = .ok (.ifCond .eq 15, 3) := by decide +kernel
theorem dX12_deed_36 : decode cX12_deed 36 = .ok (.iload 6, 2) := by decide +kernel
theorem dX12_deed_38 : decode cX12_deed 38 = .ok (.iconst 1, 1) := by decide +kernel
theorem dX12_deed_39 : decode cX12_deed 39 = .ok (.sipush 1000, 3) := by decide +kernel
theorem dX12_deed_42 : decode cX12_deed 42 = .ok (.invokestatic 257, 3) := by decide +kernel
theorem dX12_deed_45 : decode cX12_deed 45 = .ok (.ifCond .ne 7, 3) := by decide +kernel
theorem dX12_deed_48 : decode cX12_deed 48 = .ok (.iconst 1, 1) := by decide +kernel
theorem dX12_deed_49 : decode cX12_deed 49 = .ok (.goto 4, 3) := by decide +kernel
theorem dX12_deed_52 : decode cX12_deed 52 = .ok (.iconst 0, 1) := by decide +kernel
theorem dX12_deed_53 : decode cX12_deed 53 = .ok (.istore 7, 2) := by decide +kernel
theorem dX12_deed_55 : decode cX12_deed 55 = .ok (.aload_n 0, 1) := by decide +kernel
theorem dX12_deed_56 : decode cX12_deed 56 = .ok (.aload_n 0, 1) := by decide +kernel
theorem dX12_deed_57 : decode cX12_deed 57 = .ok (.iload_n 1, 1) := by decide +kernel
theorem dX12_deed_58 : decode cX12_deed 58 = .ok (.invokevirtual 507, 3) := by decide +kernel
theorem dX12_deed_61 : decode cX12_deed 61 = .ok (.ifCond .ne 7, 3) := by decide +kernel
theorem dX12_deed_64 : decode cX12_deed 64 = .ok (.iconst 1, 1) := by decide +kernel
theorem dX12_deed_65 : decode cX12_deed 65 = .ok (.goto 4, 3) := by decide +kernel
theorem dX12_deed_68 : decode cX12_deed 68 = .ok (.iconst 0, 1) := by decide +kernel
theorem dX12_deed_69 : decode cX12_deed 69 = .ok (.iconst 1, 1) := by decide +kernel
theorem dX12_deed_70 : decode cX12_deed 70 = .ok (.invokevirtual 265, 3) := by decide +kernel
theorem dX12_deed_73 : decode cX12_deed 73 = .ok (.ifCond .ne 13, 3) := by decide +kernel
theorem dX12_deed_76 : decode cX12_deed 76 = .ok (.aload_n 0, 1) := by decide +kernel
theorem dX12_deed_77 : decode cX12_deed 77 = .ok (.iload 7, 2) := by decide +kernel
theorem dX12_deed_79 : decode cX12_deed 79 = .ok (.iconst 2, 1) := by decide +kernel
theorem dX12_deed_80 : decode cX12_deed 80 = .ok (.invokevirtual 265, 3) := by decide +kernel
theorem dX12_deed_83 : decode cX12_deed 83 = .ok (.ifCond .eq 5, 3) := by decide +kernel
theorem dX12_deed_86 : decode cX12_deed 86 = .ok (.iconst 0, 1) := by decide +kernel
theorem dX12_deed_87 : decode cX12_deed 87 = .ok (.ireturn, 1) := by decide +kernel
theorem dX12_deed_88 : decode cX12_deed 88 = .ok (.aload_n 0, 1) := by decide +kernel
theorem dX12_deed_89 : decode cX12_deed 89 = .ok (.getfield 522, 3) := by decide +kernel
theorem dX12_deed_92 : decode cX12_deed 92 = .ok (.bipush 60, 2) := by decide +kernel
theorem dX12_deed_94 : decode cX12_deed 94 = .ok (.if_icmp .ne 5, 3) := by decide +kernel
theorem dX12_deed_97 : decode cX12_deed 97 = .ok (.iconst (-1), 1) := by decide +kernel
theorem dX12_deed_98 : decode cX12_deed 98 = .ok (.ireturn, 1) := by decide +kernel
theorem dX12_deed_99 : decode cX12_deed 99 = .ok (.aload_n 0, 1) := by decide +kernel
theorem dX12_deed_100 : decode cX12_deed 100 = .ok (.getfield 100, 3) := by decide +kernel
theorem dX12_deed_103 : decode cX12_deed 103 = .ok (.aload_n 0, 1) := by decide +kernel
theorem dX12_deed_104 : decode cX12_deed 104 = .ok (.getfield 522, 3) := by decide +kernel
theorem dX12_deed_107 : decode cX12_deed 107 = .ok (.iload_n 1, 1) := by decide +kernel
theorem dX12_deed_108 : decode cX12_deed 108 = .ok (.iastore, 1) := by decide +kernel
theorem dX12_deed_109 : decode cX12_deed 109 = .ok (.aload_n 0, 1) := by decide +kernel
theorem dX12_deed_110 : decode cX12_deed 110 = .ok (.getfield 103, 3) := by decide +kernel
theorem dX12_deed_113 : decode cX12_deed 113 = .ok (.aload_n 0, 1) := by decide +kernel
theorem dX12_deed_114 : decode cX12_deed 114 = .ok (.getfield 522, 3) := by decide +kernel
theorem dX12_deed_117 : decode cX12_deed 117 = .ok (.iload_n 2, 1) := by decide +kernel
theorem dX12_deed_118 : decode cX12_deed 118 = .ok (.iastore, 1) := by decide +kernel
theorem dX12_deed_119 : decode cX12_deed 119 = .ok (.aload_n 0, 1) := by decide +kernel
theorem dX12_deed_120 : decode cX12_deed 120 = .ok (.getfield 106, 3) := by decide +kernel
theorem dX12_deed_123 : decode cX12_deed 123 = .ok (.aload_n 0, 1) := by decide +kernel
theorem dX12_deed_124 : decode cX12_deed 124 = .ok (.getfield 522, 3) := by decide +kernel
theorem dX12_deed_127 : decode cX12_deed 127 = .ok (.iload_n 3, 1) := by decide +kernel
theorem dX12_deed_128 : decode cX12_deed 128 = .ok (.iastore, 1) := by decide +kernel
theorem dX12_deed_129 : decode cX12_deed 129 = .ok (.aload_n 0, 1) := by decide +kernel
theorem dX12_deed_130 : decode cX12_deed 130 = .ok (.getfield 109, 3) := by decide +kernel
theorem dX12_deed_133 : decode cX12_deed 133 = .ok (.aload_n 0, 1) := by decide +kernel
theorem dX12_deed_134 : decode cX12_deed 134 = .ok (.getfield 522, 3) := by decide +kernel
theorem dX12_deed_137 : decode cX12_deed 137 = .ok (.iload 4, 2) := by decide +kernel
theorem dX12_deed_139 : decode cX12_deed 139 = .ok (.iastore, 1) := by decide +kernel
theorem dX12_deed_140 : decode cX12_deed 140 = .ok (.aload_n 0, 1) := by decide +kernel
theorem dX12_deed_141 : decode cX12_deed 141 = .ok (.getfield 112, 3) := by decide +kernel
theorem dX12_deed_144 : decode cX12_deed 144 = .ok (.aload_n 0, 1) := by decide +kernel
theorem dX12_deed_145 : decode cX12_deed 145 = .ok (.getfield 522, 3) := by decide +kernel
theorem dX12_deed_148 : decode cX12_deed 148 = .ok (.iload 5, 2) := by decide +kernel
theorem dX12_deed_150 : decode cX12_deed 150 = .ok (.iastore, 1) := by decide +kernel
theorem dX12_deed_151 : decode cX12_deed 151 = .ok (.aload_n 0, 1) := by decide +kernel
theorem dX12_deed_152 : decode cX12_deed 152 = .ok (.getfield 115, 3) := by decide +kernel
theorem dX12_deed_155 : decode cX12_deed 155 = .ok (.aload_n 0, 1) := by decide +kernel
theorem dX12_deed_156 : decode cX12_deed 156 = .ok (.getfield 522, 3) := by decide +kernel
theorem dX12_deed_159 : decode cX12_deed 159 = .ok (.iload 6, 2) := by decide +kernel
theorem dX12_deed_161 : decode cX12_deed 161 = .ok (.iastore, 1) := by decide +kernel
theorem dX12_deed_162 : decode cX12_deed 162 = .ok (.aload_n 0, 1) := by decide +kernel
theorem dX12_deed_163 : decode cX12_deed 163 = .ok (.dup, 1) := by decide +kernel
theorem dX12_deed_164 : decode cX12_deed 164 = .ok (.getfield 522, 3) := by decide +kernel
theorem dX12_deed_167 : decode cX12_deed 167 = .ok (.iconst 1, 1) := by decide +kernel
theorem dX12_deed_168 : decode cX12_deed 168 = .ok (.iadd, 1) := by decide +kernel
theorem dX12_deed_169 : decode cX12_deed 169 = .ok (.putfield 522, 3) := by decide +kernel
theorem dX12_deed_172 : decode cX12_deed 172 = .ok (.aload_n 0, 1) := by decide +kernel
theorem dX12_deed_173 : decode cX12_deed 173 = .ok (.getfield 522, 3) := by decide +kernel
theorem dX12_deed_176 : decode cX12_deed 176 = .ok (.iconst 1, 1) := by decide +kernel
theorem dX12_deed_177 : decode cX12_deed 177 = .ok (.isub, 1) := by decide +kernel
theorem dX12_deed_178 : decode cX12_deed 178 = .ok (.ireturn, 1) := by decide +kernel
def B_M_deed_69   (x1 : Int32) (x2 : Int32) (x3 : Int32) (x4 : Int32) (x5 : Int32) (x6 : Int32) (x7 : Int32) (z1 : Int32) (σ : CS) : Option (Int32 × CS) := bnd (f_M_bad z1 1 σ) (fun r70 σ70 => if r70 = 0 then bnd (f_M_bad x7 2 σ70) (fun r80 σ80 => if r80 = 0 then if (σ80.1 48) = 60 then some ((-1), σ80) else gix (σ80.1 48) 60 (gix (σ80.1 48) 60 (gix (σ80.1 48) 60 (gix (σ80.1 48) 60 (gix (σ80.1 48) 60 (gix (σ80.1 48) 60 (some ((((σ80.1 48) + 1) - 1), (sF (wr (wr (wr (wr (wr (wr σ80 49 (σ80.1 48) x1) 50 (σ80.1 48) x2) 51 (σ80.1 48) x3) 52 (σ80.1 48) x4) 53 (σ80.1 48) x5) 54 (σ80.1 48) x6) 48 ((σ80.1 48) + 1))))))))) else some (0, σ80)) else some (0, σ70))
set_option maxHeartbeats 4000000 in
set_option maxRecDepth 100000 in
theorem w_M_deed_69 (C : Cx g p s m args meth c A 8 cX12_deed yX12_deed.cls) (hr : meth.sig.returnType = (some .int))  {res : Int32 × CS}   (x1 : Int32) (x2 : Int32) (x3 : Int32) (x4 : Int32) (x5 : Int32) (x6 : Int32) (x7 : Int32) (z1 : Int32)  (σ : CS) (h : B_M_deed_69 x1 x2 x3 x4 x5 x6 x7 z1 σ = some res) : NMI g p l e s m args below meth c A 2 43 8 am Rr res σ [(0, .ref (am 112)), (1, .int x1), (2, .int x2), (3, .int x3), (4, .int x4), (5, .int x5), (6, .int x6), (7, .int x7)] 69 [.int z1, .ref (am 112)] := by
  unfold B_M_deed_69 at h
  refine nw_iconst (v := 1) C dX12_deed_69 (by decide) ?_
  refine nm_callVI (q0 := 0) (As := [.int z1, .int 1]) (rest := []) C h (fun _ _ e => c_M_bad e) tw_1924 kv_X12_bad ml_O rfl ⟨Nat.le_of_ble_eq_true rfl, Nat.le_of_ble_eq_true rfl⟩ rfl dX12_deed_70 rfl (Nat.le_of_ble_eq_true rfl) (fun r70 σ70 h => ?_)
  refine nw_if_ne (tgt := 86) C dX12_deed_73 (by decide) h (fun _ h => ?_) (fun _ h => ?_)
  · refine nw_aload_n C dX12_deed_76 rfl 0 rfl ?_
    refine nw_iload C dX12_deed_77 7 rfl ?_
    refine nw_iconst (v := 2) C dX12_deed_79 (by decide) ?_
    refine nm_callVI (q0 := 0) (As := [.int x7, .int 2]) (rest := []) C h (fun _ _ e => c_M_bad e) tw_1924 kv_X12_bad ml_O rfl ⟨Nat.le_of_ble_eq_true rfl, Nat.le_of_ble_eq_true rfl⟩ rfl dX12_deed_80 rfl (Nat.le_of_ble_eq_true rfl) (fun r80 σ80 h => ?_)
    refine nw_if_eq (tgt := 88) C dX12_deed_83 (by decide) h (fun _ h => ?_) (fun _ h => ?_)
    · refine nw_aload_n C dX12_deed_88 rfl 0 rfl ?_
      refine nw_get (v := .int (σ80.1 48)) C in_X12 0 ml_O rfl 48 (by decide) tw_1621 rfl mf_48 dX12_deed_89 ?_
      refine nw_bipush (v := 60) C dX12_deed_92 (by decide) ?_
      refine nw_icmp_ne (tgt := 99) C dX12_deed_94 (by decide) h (fun _ h => ?_) (fun _ h => ?_)
      · refine nw_iconst (v := (-1)) C dX12_deed_97 (by decide) ?_
        exact nm_iret C hr dX12_deed_98 h
      · refine nw_aload_n C dX12_deed_99 rfl 0 rfl ?_
        refine nw_get (v := .ref (am 49)) C in_X12 0 ml_O rfl 49 (by decide) tw_1622 rfl mf_49 dX12_deed_100 ?_
        refine nw_aload_n C dX12_deed_103 rfl 0 rfl ?_
        refine nw_get (v := .int (σ80.1 48)) C in_X12 0 ml_O rfl 48 (by decide) tw_1621 rfl mf_48 dX12_deed_104 ?_
        refine nw_iload_n C dX12_deed_107 rfl 1 rfl ?_
        refine nw_iast C 29 ml_49 dX12_deed_108 h ms_49 (fun h => ?_)
        refine nw_aload_n C dX12_deed_109 rfl 0 rfl ?_
        refine nw_get (v := .ref (am 50)) C in_X12 0 ml_O rfl 50 (by decide) tw_1623 rfl mf_50 dX12_deed_110 ?_
        refine nw_aload_n C dX12_deed_113 rfl 0 rfl ?_
        refine nw_get (v := .int (σ80.1 48)) C in_X12 0 ml_O rfl 48 (by decide) tw_1621 rfl rfl dX12_deed_114 ?_
        refine nw_iload_n C dX12_deed_117 rfl 2 rfl ?_
        refine nw_iast C 30 ml_50 dX12_deed_118 h ms_50 (fun h => ?_)
        refine nw_aload_n C dX12_deed_119 rfl 0 rfl ?_
        refine nw_get (v := .ref (am 51)) C in_X12 0 ml_O rfl 51 (by decide) tw_1624 rfl mf_51 dX12_deed_120 ?_
        refine nw_aload_n C dX12_deed_123 rfl 0 rfl ?_
        refine nw_get (v := .int (σ80.1 48)) C in_X12 0 ml_O rfl 48 (by decide) tw_1621 rfl rfl dX12_deed_124 ?_
        refine nw_iload_n C dX12_deed_127 rfl 3 rfl ?_
        refine nw_iast C 31 ml_51 dX12_deed_128 h ms_51 (fun h => ?_)
        refine nw_aload_n C dX12_deed_129 rfl 0 rfl ?_
        refine nw_get (v := .ref (am 52)) C in_X12 0 ml_O rfl 52 (by decide) tw_1625 rfl mf_52 dX12_deed_130 ?_
        refine nw_aload_n C dX12_deed_133 rfl 0 rfl ?_
        refine nw_get (v := .int (σ80.1 48)) C in_X12 0 ml_O rfl 48 (by decide) tw_1621 rfl rfl dX12_deed_134 ?_
        refine nw_iload C dX12_deed_137 4 rfl ?_
        refine nw_iast C 32 ml_52 dX12_deed_139 h ms_52 (fun h => ?_)
        refine nw_aload_n C dX12_deed_140 rfl 0 rfl ?_
        refine nw_get (v := .ref (am 53)) C in_X12 0 ml_O rfl 53 (by decide) tw_1626 rfl mf_53 dX12_deed_141 ?_
        refine nw_aload_n C dX12_deed_144 rfl 0 rfl ?_
        refine nw_get (v := .int (σ80.1 48)) C in_X12 0 ml_O rfl 48 (by decide) tw_1621 rfl rfl dX12_deed_145 ?_
        refine nw_iload C dX12_deed_148 5 rfl ?_
        refine nw_iast C 33 ml_53 dX12_deed_150 h ms_53 (fun h => ?_)
        refine nw_aload_n C dX12_deed_151 rfl 0 rfl ?_
        refine nw_get (v := .ref (am 54)) C in_X12 0 ml_O rfl 54 (by decide) tw_1627 rfl mf_54 dX12_deed_152 ?_
        refine nw_aload_n C dX12_deed_155 rfl 0 rfl ?_
        refine nw_get (v := .int (σ80.1 48)) C in_X12 0 ml_O rfl 48 (by decide) tw_1621 rfl rfl dX12_deed_156 ?_
        refine nw_iload C dX12_deed_159 6 rfl ?_
        refine nw_iast C 34 ml_54 dX12_deed_161 h ms_54 (fun h => ?_)
        refine nw_aload_n C dX12_deed_162 rfl 0 rfl ?_
        refine nw_dup C dX12_deed_163 rfl ?_
        refine nw_get (v := .int (σ80.1 48)) C in_X12 0 ml_O rfl 48 (by decide) tw_1621 rfl rfl dX12_deed_164 ?_
        refine nw_iconst (v := 1) C dX12_deed_167 (by decide) ?_
        refine nw_iadd C dX12_deed_168 ?_
        refine nw_put (ty := .int) C in_X12 0 ml_O rfl 48 (by decide) tyX12 tyX12_ok nmX12 tw_1621 rfl rfl (by decide +kernel) rfl rfl (Nat.le_of_ble_eq_true rfl) dX12_deed_169 ms_48 ?_
        refine nw_aload_n C dX12_deed_172 rfl 0 rfl ?_
        refine nw_get (v := .int ((σ80.1 48) + 1)) C in_X12 0 ml_O rfl 48 (by decide) tw_1621 rfl rfl dX12_deed_173 ?_
        refine nw_iconst (v := 1) C dX12_deed_176 (by decide) ?_
        refine nw_isub C dX12_deed_177 ?_
        exact nm_iret C hr dX12_deed_178 h
    · refine nw_iconst (v := 0) C dX12_deed_86 (by decide) ?_
      exact nm_iret C hr dX12_deed_87 h
  · refine nw_iconst (v := 0) C dX12_deed_86 (by decide) ?_
    exact nm_iret C hr dX12_deed_87 h
def B_M_deed_53   (x1 : Int32) (x2 : Int32) (x3 : Int32) (x4 : Int32) (x5 : Int32) (x6 : Int32) (z0 : Int32) (σ : CS) : Option (Int32 × CS) := bnd (f_M_isPerson x1 σ) (fun r58 σ58 => if r58 = 0 then B_M_deed_69 x1 x2 x3 x4 x5 x6 z0 1 σ58 else B_M_deed_69 x1 x2 x3 x4 x5 x6 z0 0 σ58)
set_option maxHeartbeats 4000000 in
set_option maxRecDepth 100000 in
theorem w_M_deed_53 (C : Cx g p s m args meth c A 8 cX12_deed yX12_deed.cls) (hr : meth.sig.returnType = (some .int))  {res : Int32 × CS}   (x1 : Int32) (x2 : Int32) (x3 : Int32) (x4 : Int32) (x5 : Int32) (x6 : Int32) (z0 : Int32)  (σ : CS) (h : B_M_deed_53 x1 x2 x3 x4 x5 x6 z0 σ = some res) : NMI g p l e s m args below meth c A 2 43 8 am Rr res σ [(0, .ref (am 112)), (1, .int x1), (2, .int x2), (3, .int x3), (4, .int x4), (5, .int x5), (6, .int x6)] 53 [.int z0] := by
  unfold B_M_deed_53 at h
  refine nw_istore (lv' := [(7, .int z0), (0, .ref (am 112)), (1, .int x1), (2, .int x2), (3, .int x3), (4, .int x4), (5, .int x5), (6, .int x6)]) C dX12_deed_53 (by decide) rfl ?_
  refine nw_aload_n C dX12_deed_55 rfl 1 rfl ?_
  refine nw_aload_n C dX12_deed_56 rfl 1 rfl ?_
  refine nw_iload_n C dX12_deed_57 rfl 2 rfl ?_
  refine nm_callVI (q0 := 0) (As := [.int x1]) (rest := [.ref (am 112)]) C h (fun _ _ e => c_M_isPerson e) tw_2172 kv_X12_isPerson ml_O rfl ⟨Nat.le_of_ble_eq_true rfl, Nat.le_of_ble_eq_true rfl⟩ rfl dX12_deed_58 rfl (Nat.le_of_ble_eq_true rfl) (fun r58 σ58 h => ?_)
  refine nw_if_ne (tgt := 68) C dX12_deed_61 (by decide) h (fun _ h => ?_) (fun _ h => ?_)
  · refine nw_iconst (v := 1) C dX12_deed_64 (by decide) ?_
    refine nw_goto (tgt := 69) C dX12_deed_65 (by decide) ?_
    exact nw_lv (lv' := [(0, .ref (am 112)), (1, .int x1), (2, .int x2), (3, .int x3), (4, .int x4), (5, .int x5), (6, .int x6), (7, .int z0)]) [1, 2, 3, 4, 5, 6, 7, 0] rfl (w_M_deed_69 C hr x1 x2 x3 x4 x5 x6 z0 1 _ h)
  · refine nw_iconst (v := 0) C dX12_deed_68 (by decide) ?_
    exact nw_lv (lv' := [(0, .ref (am 112)), (1, .int x1), (2, .int x2), (3, .int x3), (4, .int x4), (5, .int x5), (6, .int x6), (7, .int z0)]) [1, 2, 3, 4, 5, 6, 7, 0] rfl (w_M_deed_69 C hr x1 x2 x3 x4 x5 x6 z0 0 _ h)
def f_M_deed (p0 : Int32) (p1 : Int32) (p2 : Int32) (p3 : Int32) (p4 : Int32) (p5 : Int32) (σ : CS) : Option (Int32 × CS) := bnd (f_M_in p1 0 5 (sF σ 0 0)) (fun r8 σ8 => if r8 = 0 then B_M_deed_53 p0 p1 p2 p3 p4 p5 1 σ8 else bnd (f_M_isPlace p2 p3 σ8) (fun r17 σ17 => if r17 = 0 then B_M_deed_53 p0 p1 p2 p3 p4 p5 1 σ17 else bnd (f_M_in p4 0 (σ17.1 1) σ17) (fun r30 σ30 => if r30 = 0 then B_M_deed_53 p0 p1 p2 p3 p4 p5 1 σ30 else bnd (f_M_in p5 1 1000 σ30) (fun r42 σ42 => if r42 = 0 then B_M_deed_53 p0 p1 p2 p3 p4 p5 1 σ42 else B_M_deed_53 p0 p1 p2 p3 p4 p5 0 σ42))))
set_option maxHeartbeats 4000000 in
set_option maxRecDepth 100000 in
theorem c_M_deed {l : Launch} {g : EG} {am : Nat → Nat} {Rr : va_W} {σ σ' : CS} {r : Int32} {p0 : Int32} {p1 : Int32} {p2 : Int32} {p3 : Int32} {p4 : Int32} {p5 : Int32}  (h : f_M_deed p0 p1 p2 p3 p4 p5 σ = some (r, σ')) : CmI l g yX12_deed (.code yX12_deed cX12_deed 8 (some .int)) 2 43 am Rr σ [.ref (am 112), .int p0, .int p1, .int p2, .int p3, .int p4, .int p5] r σ' := by
  refine Ct.of rfl (by decide) (Nat.le_of_ble_eq_true rfl) ?_
  intro p e s m args below meth c A C hr
  show NMI g p l e s m args below meth c A 2 43 8 am Rr (r, σ') σ [(0, .ref (am 112)), (1, .int p0), (2, .int p1), (3, .int p2), (4, .int p3), (5, .int p4), (6, .int p5)] 0 []
  unfold f_M_deed at h
  refine nw_aload_n C dX12_deed_0 rfl 0 rfl ?_
  refine nw_iconst (v := 0) C dX12_deed_1 (by decide) ?_
  refine nw_put (ty := .int) C in_X12 0 ml_O rfl 0 (by decide) tyX12 tyX12_ok nmX12 tw_1573 rfl rfl (by decide +kernel) rfl rfl (Nat.le_of_ble_eq_true rfl) dX12_deed_2 ms_0 ?_
  refine nw_iload_n C dX12_deed_5 rfl 2 rfl ?_
  refine nw_iconst (v := 0) C dX12_deed_6 (by decide) ?_
  refine nw_iconst (v := 5) C dX12_deed_7 (by decide) ?_
  refine nm_callSI  (As := [.int p1, .int 0, .int 5]) (rest := []) C h (fun _ _ e => c_M_in e) tw_1918 ks_X12_in ⟨Nat.le_of_ble_eq_true rfl, Nat.le_of_ble_eq_true rfl⟩ rfl dX12_deed_8 rfl (Nat.le_of_ble_eq_true rfl) (fun r8 σ8 h => ?_)
  refine nw_if_eq (tgt := 48) C dX12_deed_11 (by decide) h (fun _ h => ?_) (fun _ h => ?_)
  · refine nw_iconst (v := 1) C dX12_deed_48 (by decide) ?_
    refine nw_goto (tgt := 53) C dX12_deed_49 (by decide) ?_
    exact nw_lv (lv' := [(0, .ref (am 112)), (1, .int p0), (2, .int p1), (3, .int p2), (4, .int p3), (5, .int p4), (6, .int p5)]) [0, 1, 2, 3, 4, 5, 6] rfl (w_M_deed_53 C hr p0 p1 p2 p3 p4 p5 1 _ h)
  · refine nw_iload_n C dX12_deed_14 rfl 3 rfl ?_
    refine nw_iload C dX12_deed_15 4 rfl ?_
    refine nm_callSI  (As := [.int p2, .int p3]) (rest := []) C h (fun _ _ e => c_M_isPlace e) tw_1921 ks_X12_isPlace ⟨Nat.le_of_ble_eq_true rfl, Nat.le_of_ble_eq_true rfl⟩ rfl dX12_deed_17 rfl (Nat.le_of_ble_eq_true rfl) (fun r17 σ17 h => ?_)
    refine nw_if_eq (tgt := 48) C dX12_deed_20 (by decide) h (fun _ h => ?_) (fun _ h => ?_)
    · refine nw_iconst (v := 1) C dX12_deed_48 (by decide) ?_
      refine nw_goto (tgt := 53) C dX12_deed_49 (by decide) ?_
      exact nw_lv (lv' := [(0, .ref (am 112)), (1, .int p0), (2, .int p1), (3, .int p2), (4, .int p3), (5, .int p4), (6, .int p5)]) [0, 1, 2, 3, 4, 5, 6] rfl (w_M_deed_53 C hr p0 p1 p2 p3 p4 p5 1 _ h)
    · refine nw_iload C dX12_deed_23 5 rfl ?_
      refine nw_iconst (v := 0) C dX12_deed_25 (by decide) ?_
      refine nw_aload_n C dX12_deed_26 rfl 0 rfl ?_
      refine nw_get (v := .int (σ17.1 1)) C in_X12 0 ml_O rfl 1 (by decide) tw_1574 rfl mf_1 dX12_deed_27 ?_
      refine nm_callSI  (As := [.int p4, .int 0, .int (σ17.1 1)]) (rest := []) C h (fun _ _ e => c_M_in e) tw_1918 ks_X12_in ⟨Nat.le_of_ble_eq_true rfl, Nat.le_of_ble_eq_true rfl⟩ rfl dX12_deed_30 rfl (Nat.le_of_ble_eq_true rfl) (fun r30 σ30 h => ?_)
      refine nw_if_eq (tgt := 48) C dX12_deed_33 (by decide) h (fun _ h => ?_) (fun _ h => ?_)
      · refine nw_iconst (v := 1) C dX12_deed_48 (by decide) ?_
        refine nw_goto (tgt := 53) C dX12_deed_49 (by decide) ?_
        exact nw_lv (lv' := [(0, .ref (am 112)), (1, .int p0), (2, .int p1), (3, .int p2), (4, .int p3), (5, .int p4), (6, .int p5)]) [0, 1, 2, 3, 4, 5, 6] rfl (w_M_deed_53 C hr p0 p1 p2 p3 p4 p5 1 _ h)
      · refine nw_iload C dX12_deed_36 6 rfl ?_
        refine nw_iconst (v := 1) C dX12_deed_38 (by decide) ?_
        refine nw_sipush (v := 1000) C dX12_deed_39 (by decide) ?_
        refine nm_callSI  (As := [.int p5, .int 1, .int 1000]) (rest := []) C h (fun _ _ e => c_M_in e) tw_1918 ks_X12_in ⟨Nat.le_of_ble_eq_true rfl, Nat.le_of_ble_eq_true rfl⟩ rfl dX12_deed_42 rfl (Nat.le_of_ble_eq_true rfl) (fun r42 σ42 h => ?_)
        refine nw_if_ne (tgt := 52) C dX12_deed_45 (by decide) h (fun _ h => ?_) (fun _ h => ?_)
        · refine nw_iconst (v := 1) C dX12_deed_48 (by decide) ?_
          refine nw_goto (tgt := 53) C dX12_deed_49 (by decide) ?_
          exact nw_lv (lv' := [(0, .ref (am 112)), (1, .int p0), (2, .int p1), (3, .int p2), (4, .int p3), (5, .int p4), (6, .int p5)]) [0, 1, 2, 3, 4, 5, 6] rfl (w_M_deed_53 C hr p0 p1 p2 p3 p4 p5 1 _ h)
        · refine nw_iconst (v := 0) C dX12_deed_52 (by decide) ?_
          exact nw_lv (lv' := [(0, .ref (am 112)), (1, .int p0), (2, .int p1), (3, .int p2), (4, .int p3), (5, .int p4), (6, .int p5)]) [0, 1, 2, 3, 4, 5, 6] rfl (w_M_deed_53 C hr p0 p1 p2 p3 p4 p5 0 _ h)
theorem dX12_deedPlace_0 : decode cX12_deedPlace 0 = .ok (.aload_n 0, 1) := by decide +kernel
theorem dX12_deedPlace_1 : decode cX12_deedPlace 1 = .ok (.aload_n 0, 1) := by decide +kernel
theorem dX12_deedPlace_2 : decode cX12_deedPlace 2 = .ok (.getfield 112, 3) := by decide +kernel
theorem dX12_deedPlace_5 : decode cX12_deedPlace 5 = .ok (.iload_n 1, 1) := by decide +kernel
theorem dX12_deedPlace_6 : decode cX12_deedPlace 6 = .ok (.iaload, 1) := by decide +kernel
theorem dX12_deedPlace_7 : decode cX12_deedPlace 7 = .ok (.aload_n 0, 1) := by decide +kernel
theorem dX12_deedPlace_8 : decode cX12_deedPlace 8 = .ok (.getfield 106, 3) := by decide +kernel
theorem dX12_deedPlace_11 : decode cX12_deedPlace 11 = .ok (.iload_n 1, 1) := by decide +kernel
theorem dX12_deedPlace_12 : decode cX12_deedPlace 12 = .ok (.iaload, 1) := by decide +kernel
theorem dX12_deedPlace_13 : decode cX12_deedPlace 13 = .ok (.aload_n 0, 1) := by decide +kernel
theorem dX12_deedPlace_14 : decode cX12_deedPlace 14 = .ok (.getfield 109, 3) := by decide +kernel
theorem dX12_deedPlace_17 : decode cX12_deedPlace 17 = .ok (.iload_n 1, 1) := by decide +kernel
theorem dX12_deedPlace_18 : decode cX12_deedPlace 18 = .ok (.iaload, 1) := by decide +kernel
theorem dX12_deedPlace_19 : decode cX12_deedPlace 19 = .ok (.invokevirtual 318, 3) := by decide +kernel
theorem dX12_deedPlace_22 : decode cX12_deedPlace 22 = .ok (.ireturn, 1) := by decide +kernel
def f_M_deedPlace (p0 : Int32) (σ : CS) : Option (Int32 × CS) := gix p0 60 (gix p0 60 (gix p0 60 (bnd (f_M_placed (rd σ 53 p0) (rd σ 51 p0) (rd σ 52 p0) σ) (fun r19 σ19 => some (r19, σ19)))))
set_option maxHeartbeats 4000000 in
set_option maxRecDepth 100000 in
theorem c_M_deedPlace {l : Launch} {g : EG} {am : Nat → Nat} {Rr : va_W} {σ σ' : CS} {r : Int32} {p0 : Int32}  (h : f_M_deedPlace p0 σ = some (r, σ')) : CmI l g yX12_deedPlace (.code yX12_deedPlace cX12_deedPlace 2 (some .int)) 4 119 am Rr σ [.ref (am 112), .int p0] r σ' := by
  refine Ct.of rfl (by decide) (Nat.le_of_ble_eq_true rfl) ?_
  intro p e s m args below meth c A C hr
  show NMI g p l e s m args below meth c A 4 119 2 am Rr (r, σ') σ [(0, .ref (am 112)), (1, .int p0)] 0 []
  unfold f_M_deedPlace at h
  refine nw_aload_n C dX12_deedPlace_0 rfl 0 rfl ?_
  refine nw_aload_n C dX12_deedPlace_1 rfl 0 rfl ?_
  refine nw_get (v := .ref (am 53)) C in_X12 0 ml_O rfl 53 (by decide) tw_1626 rfl mf_53 dX12_deedPlace_2 ?_
  refine nw_iload_n C dX12_deedPlace_5 rfl 1 rfl ?_
  refine nw_iald C 33 ml_53 dX12_deedPlace_6 h (fun h => ?_)
  refine nw_aload_n C dX12_deedPlace_7 rfl 0 rfl ?_
  refine nw_get (v := .ref (am 51)) C in_X12 0 ml_O rfl 51 (by decide) tw_1624 rfl mf_51 dX12_deedPlace_8 ?_
  refine nw_iload_n C dX12_deedPlace_11 rfl 1 rfl ?_
  refine nw_iald C 31 ml_51 dX12_deedPlace_12 h (fun h => ?_)
  refine nw_aload_n C dX12_deedPlace_13 rfl 0 rfl ?_
  refine nw_get (v := .ref (am 52)) C in_X12 0 ml_O rfl 52 (by decide) tw_1625 rfl mf_52 dX12_deedPlace_14 ?_
  refine nw_iload_n C dX12_deedPlace_17 rfl 1 rfl ?_
  refine nw_iald C 32 ml_52 dX12_deedPlace_18 h (fun h => ?_)
  refine nm_callVI (q0 := 0) (As := [.int (rd σ 53 p0), .int (rd σ 51 p0), .int (rd σ 52 p0)]) (rest := []) C h (fun _ _ e => c_M_placed e) tw_1986 kv_X12_placed ml_O rfl ⟨Nat.le_of_ble_eq_true rfl, Nat.le_of_ble_eq_true rfl⟩ rfl dX12_deedPlace_19 rfl (Nat.le_of_ble_eq_true rfl) (fun r19 σ19 h => ?_)
  exact nm_iret C hr dX12_deedPlace_22 h
theorem dX12_valueOf_0 : decode cX12_valueOf 0 = .ok (.iload_n 1, 1) := by decide +kernel
theorem dX12_valueOf_1 : decode cX12_valueOf 1 = .ok (.tableswitch 89 0 4 #[35, 42, 55, 67, 78], 35) := by decide +kernel
theorem dX12_valueOf_36 : decode cX12_valueOf 36 = .ok (.aload_n 0, 1) := by decide +kernel
theorem dX12_valueOf_37 : decode cX12_valueOf 37 = .ok (.getfield 115, 3) := by decide +kernel
theorem dX12_valueOf_40 : decode cX12_valueOf 40 = .ok (.iload_n 2, 1) := by decide +kernel
theorem dX12_valueOf_41 : decode cX12_valueOf 41 = .ok (.iaload, 1) := by decide +kernel
theorem dX12_valueOf_42 : decode cX12_valueOf 42 = .ok (.ireturn, 1) := by decide +kernel
theorem dX12_valueOf_43 : decode cX12_valueOf 43 = .ok (.aload_n 0, 1) := by decide +kernel
theorem dX12_valueOf_44 : decode cX12_valueOf 44 = .ok (.getfield 112, 3) := by decide +kernel
theorem dX12_valueOf_47 : decode cX12_valueOf 47 = .ok (.iload_n 2, 1) := by decide +kernel
theorem dX12_valueOf_48 : decode cX12_valueOf 48 = .ok (.iaload, 1) := by decide +kernel
theorem dX12_valueOf_49 : decode cX12_valueOf 49 = .ok (.bipush 30, 2) := by decide +kernel
theorem dX12_valueOf_51 : decode cX12_valueOf 51 = .ok (.idiv, 1) := by decide +kernel
theorem dX12_valueOf_52 : decode cX12_valueOf 52 = .ok (.bipush 12, 2) := by decide +kernel
theorem dX12_valueOf_54 : decode cX12_valueOf 54 = .ok (.irem, 1) := by decide +kernel
theorem dX12_valueOf_55 : decode cX12_valueOf 55 = .ok (.ireturn, 1) := by decide +kernel
theorem dX12_valueOf_56 : decode cX12_valueOf 56 = .ok (.aload_n 0, 1) := by decide +kernel
theorem dX12_valueOf_57 : decode cX12_valueOf 57 = .ok (.getfield 79, 3) := by decide +kernel
theorem dX12_valueOf_60 : decode cX12_valueOf 60 = .ok (.aload_n 0, 1) := by decide +kernel
theorem dX12_valueOf_61 : decode cX12_valueOf 61 = .ok (.getfield 100, 3) := by decide +kernel
theorem dX12_valueOf_64 : decode cX12_valueOf 64 = .ok (.iload_n 2, 1) := by decide +kernel
theorem dX12_valueOf_65 : decode cX12_valueOf 65 = .ok (.iaload, 1) := by decide +kernel
theorem dX12_valueOf_66 : decode cX12_valueOf 66 = .ok (.iaload, 1) := by decide +kernel
theorem dX12_valueOf_67 : decode cX12_valueOf 67 = .ok (.ireturn, 1) := by decide +kernel
theorem dX12_valueOf_68 : decode cX12_valueOf 68 = .ok (.aload_n 0, 1) := by decide +kernel
theorem dX12_valueOf_69 : decode cX12_valueOf 69 = .ok (.getfield 112, 3) := by decide +kernel
theorem dX12_valueOf_72 : decode cX12_valueOf 72 = .ok (.iload_n 2, 1) := by decide +kernel
theorem dX12_valueOf_73 : decode cX12_valueOf 73 = .ok (.iaload, 1) := by decide +kernel
theorem dX12_valueOf_74 : decode cX12_valueOf 74 = .ok (.sipush 360, 3) := by decide +kernel
theorem dX12_valueOf_77 : decode cX12_valueOf 77 = .ok (.idiv, 1) := by decide +kernel
theorem dX12_valueOf_78 : decode cX12_valueOf 78 = .ok (.ireturn, 1) := by decide +kernel
theorem dX12_valueOf_79 : decode cX12_valueOf 79 = .ok (.iload_n 3, 1) := by decide +kernel
theorem dX12_valueOf_80 : decode cX12_valueOf 80 = .ok (.iconst 1, 1) := by decide +kernel
theorem dX12_valueOf_81 : decode cX12_valueOf 81 = .ok (.if_icmp .ne 7, 3) := by decide +kernel
theorem dX12_valueOf_84 : decode cX12_valueOf 84 = .ok (.iconst 1, 1) := by decide +kernel
theorem dX12_valueOf_85 : decode cX12_valueOf 85 = .ok (.goto 4, 3) := by decide +kernel
theorem dX12_valueOf_88 : decode cX12_valueOf 88 = .ok (.iconst 0, 1) := by decide +kernel
theorem dX12_valueOf_89 : decode cX12_valueOf 89 = .ok (.ireturn, 1) := by decide +kernel
theorem dX12_valueOf_90 : decode cX12_valueOf 90 = .ok (.iload_n 3, 1) := by decide +kernel
theorem dX12_valueOf_91 : decode cX12_valueOf 91 = .ok (.iconst 2, 1) := by decide +kernel
theorem dX12_valueOf_92 : decode cX12_valueOf 92 = .ok (.if_icmp .ne 7, 3) := by decide +kernel
theorem dX12_valueOf_95 : decode cX12_valueOf 95 = .ok (.iconst 1, 1) := by decide +kernel
theorem dX12_valueOf_96 : decode cX12_valueOf 96 = .ok (.goto 4, 3) := by decide +kernel
theorem dX12_valueOf_99 : decode cX12_valueOf 99 = .ok (.iconst 0, 1) := by decide +kernel
theorem dX12_valueOf_100 : decode cX12_valueOf 100 = .ok (.ireturn, 1) := by decide +kernel
def f_M_valueOf (p0 : Int32) (p1 : Int32) (p2 : Int32) (σ : CS) : Option (Int32 × CS) := if p0 = 0 then gix p1 60 (some ((rd σ 54 p1), σ)) else if p0 = 1 then gix p1 60 (some ((((rd σ 53 p1) / 30) - ((rd σ 53 p1) / 30) / 12 * 12), σ)) else if p0 = 2 then gix p1 60 (gix (rd σ 49 p1) 40 (some ((rd σ 40 (rd σ 49 p1)), σ))) else if p0 = 3 then gix p1 60 (some (((rd σ 53 p1) / 360), σ)) else if p0 = 4 then if p2 = 1 then some (1, σ) else some (0, σ) else if p2 = 2 then some (1, σ) else some (0, σ)
set_option maxHeartbeats 4000000 in
set_option maxRecDepth 100000 in
theorem c_M_valueOf {l : Launch} {g : EG} {am : Nat → Nat} {Rr : va_W} {σ σ' : CS} {r : Int32} {p0 : Int32} {p1 : Int32} {p2 : Int32}  (h : f_M_valueOf p0 p1 p2 σ = some (r, σ')) : CmI l g yX12_valueOf (.code yX12_valueOf cX12_valueOf 4 (some .int)) 0 0 am Rr σ [.ref (am 112), .int p0, .int p1, .int p2] r σ' := by
  refine Ct.of rfl (by decide) (Nat.le_of_ble_eq_true rfl) ?_
  intro p e s m args below meth c A C hr
  show NMI g p l e s m args below meth c A 0 0 4 am Rr (r, σ') σ [(0, .ref (am 112)), (1, .int p0), (2, .int p1), (3, .int p2)] 0 []
  unfold f_M_valueOf at h
  refine nw_iload_n C dX12_valueOf_0 rfl 1 rfl ?_
  refine nw_tsCase (tgt := 36) C 0 dX12_valueOf_1 (by decide) (by decide) rfl (by decide) h (fun _ h => ?_) (fun hc0 h => ?_)
  · refine nw_aload_n C dX12_valueOf_36 rfl 0 rfl ?_
    refine nw_get (v := .ref (am 54)) C in_X12 0 ml_O rfl 54 (by decide) tw_1627 rfl mf_54 dX12_valueOf_37 ?_
    refine nw_iload_n C dX12_valueOf_40 rfl 2 rfl ?_
    refine nw_iald C 34 ml_54 dX12_valueOf_41 h (fun h => ?_)
    exact nm_iret C hr dX12_valueOf_42 h
  · refine nw_tsCase (tgt := 43) C 1 dX12_valueOf_1 (by decide) (by decide) rfl (by decide) h (fun _ h => ?_) (fun hc1 h => ?_)
    · refine nw_aload_n C dX12_valueOf_43 rfl 0 rfl ?_
      refine nw_get (v := .ref (am 53)) C in_X12 0 ml_O rfl 53 (by decide) tw_1626 rfl mf_53 dX12_valueOf_44 ?_
      refine nw_iload_n C dX12_valueOf_47 rfl 2 rfl ?_
      refine nw_iald C 33 ml_53 dX12_valueOf_48 h (fun h => ?_)
      refine nw_bipush (v := 30) C dX12_valueOf_49 (by decide) ?_
      refine nw_idivk C dX12_valueOf_51 (by decide) ?_
      refine nw_bipush (v := 12) C dX12_valueOf_52 (by decide) ?_
      refine nw_iremk C dX12_valueOf_54 (by decide) ?_
      exact nm_iret C hr dX12_valueOf_55 h
    · refine nw_tsCase (tgt := 56) C 2 dX12_valueOf_1 (by decide) (by decide) rfl (by decide) h (fun _ h => ?_) (fun hc2 h => ?_)
      · refine nw_aload_n C dX12_valueOf_56 rfl 0 rfl ?_
        refine nw_get (v := .ref (am 40)) C in_X12 0 ml_O rfl 40 (by decide) tw_1613 rfl mf_40 dX12_valueOf_57 ?_
        refine nw_aload_n C dX12_valueOf_60 rfl 0 rfl ?_
        refine nw_get (v := .ref (am 49)) C in_X12 0 ml_O rfl 49 (by decide) tw_1622 rfl mf_49 dX12_valueOf_61 ?_
        refine nw_iload_n C dX12_valueOf_64 rfl 2 rfl ?_
        refine nw_iald C 29 ml_49 dX12_valueOf_65 h (fun h => ?_)
        refine nw_iald C 22 ml_40 dX12_valueOf_66 h (fun h => ?_)
        exact nm_iret C hr dX12_valueOf_67 h
      · refine nw_tsCase (tgt := 68) C 3 dX12_valueOf_1 (by decide) (by decide) rfl (by decide) h (fun _ h => ?_) (fun hc3 h => ?_)
        · refine nw_aload_n C dX12_valueOf_68 rfl 0 rfl ?_
          refine nw_get (v := .ref (am 53)) C in_X12 0 ml_O rfl 53 (by decide) tw_1626 rfl mf_53 dX12_valueOf_69 ?_
          refine nw_iload_n C dX12_valueOf_72 rfl 2 rfl ?_
          refine nw_iald C 33 ml_53 dX12_valueOf_73 h (fun h => ?_)
          refine nw_sipush (v := 360) C dX12_valueOf_74 (by decide) ?_
          refine nw_idivk C dX12_valueOf_77 (by decide) ?_
          exact nm_iret C hr dX12_valueOf_78 h
        · refine nw_tsCase (tgt := 79) C 4 dX12_valueOf_1 (by decide) (by decide) rfl (by decide) h (fun _ h => ?_) (fun hc4 h => ?_)
          · refine nw_iload_n C dX12_valueOf_79 rfl 3 rfl ?_
            refine nw_iconst (v := 1) C dX12_valueOf_80 (by decide) ?_
            refine nw_icmp_ne (tgt := 88) C dX12_valueOf_81 (by decide) h (fun _ h => ?_) (fun _ h => ?_)
            · refine nw_iconst (v := 1) C dX12_valueOf_84 (by decide) ?_
              refine nw_goto (tgt := 89) C dX12_valueOf_85 (by decide) ?_
              exact nm_iret C hr dX12_valueOf_89 h
            · refine nw_iconst (v := 0) C dX12_valueOf_88 (by decide) ?_
              exact nm_iret C hr dX12_valueOf_89 h
          · refine nw_tsOut (tgt := 90) C dX12_valueOf_1 (by have q0 := lv_neT hc0 (a := 0) (by decide); have q1 := lv_neT hc1 (a := 1) (by decide); have q2 := lv_neT hc2 (a := 2) (by decide); have q3 := lv_neT hc3 (a := 3) (by decide); have q4 := lv_neT hc4 (a := 4) (by decide); omega) (by decide) ?_
            refine nw_iload_n C dX12_valueOf_90 rfl 3 rfl ?_
            refine nw_iconst (v := 2) C dX12_valueOf_91 (by decide) ?_
            refine nw_icmp_ne (tgt := 99) C dX12_valueOf_92 (by decide) h (fun _ h => ?_) (fun _ h => ?_)
            · refine nw_iconst (v := 1) C dX12_valueOf_95 (by decide) ?_
              refine nw_goto (tgt := 100) C dX12_valueOf_96 (by decide) ?_
              exact nm_iret C hr dX12_valueOf_100 h
            · refine nw_iconst (v := 0) C dX12_valueOf_99 (by decide) ?_
              exact nm_iret C hr dX12_valueOf_100 h
end
