section
variable {g : EG} {p : Program} {l : Launch} {e : Env} {s : State} {m : MethodId} {args : Array Value} {below : List Frame} {meth : Method} {c : Code} {A : Nat → Prop} {ad am ta : Nat → Nat} {Rr : va_W} {φ0 : Nat}
theorem dX12_proof_0 : decode cX12_proof 0 = .ok (.aload_n 0, 1) := by decide +kernel
theorem dX12_proof_1 : decode cX12_proof 1 = .ok (.iconst 0, 1) := by decide +kernel
theorem dX12_proof_2 : decode cX12_proof 2 = .ok (.putfield 253, 3) := by decide +kernel
theorem dX12_proof_5 : decode cX12_proof 5 = .ok (.aload_n 0, 1) := by decide +kernel
theorem dX12_proof_6 : decode cX12_proof 6 = .ok (.aload_n 0, 1) := by decide +kernel
theorem dX12_proof_7 : decode cX12_proof 7 = .ok (.iload_n 1, 1) := by decide +kernel
theorem dX12_proof_8 : decode cX12_proof 8 = .ok (.invokevirtual 569, 3) := by decide +kernel
theorem dX12_proof_11 : decode cX12_proof 11 = .ok (.ifCond .ne 7, 3) := by decide +kernel
theorem dX12_proof_14 : decode cX12_proof 14 = .ok (.iconst 1, 1) := by decide +kernel
theorem dX12_proof_15 : decode cX12_proof 15 = .ok (.goto 4, 3) := by decide +kernel
theorem dX12_proof_18 : decode cX12_proof 18 = .ok (.iconst 0, 1) := by decide +kernel
theorem dX12_proof_19 : decode cX12_proof 19 = .ok (.iconst 1, 1) := by decide +kernel
theorem dX12_proof_20 : decode cX12_proof 20 = .ok (.invokevirtual 265, 3) := by decide +kernel
theorem dX12_proof_23 : decode cX12_proof 23 = .ok (.ifCond .ne 27, 3) := by decide +kernel
theorem dX12_proof_26 : decode cX12_proof 26 = .ok (.aload_n 0, 1) := by decide +kernel
theorem dX12_proof_27 : decode cX12_proof 27 = .ok (.iload_n 2, 1) := by decide +kernel
theorem dX12_proof_28 : decode cX12_proof 28 = .ok (.bipush (-9), 2) := by decide +kernel
theorem dX12_proof_30 : decode cX12_proof 30 = .ok (.bipush 9, 2) := by decide +kernel
theorem dX12_proof_32 : decode cX12_proof 32 = .ok (.invokestatic 257, 3) := by decide +kernel
theorem dX12_proof_35 : decode cX12_proof 35 = .ok (.ifCond .ne 7, 3) := by decide +kernel
theorem dX12_proof_38 : decode cX12_proof 38 = .ok (.iconst 1, 1) := by decide +kernel
theorem dX12_proof_39 : decode cX12_proof 39 = .ok (.goto 4, 3) := by decide +kernel
theorem dX12_proof_42 : decode cX12_proof 42 = .ok (.iconst 0, 1) := by decide +kernel
theorem dX12_proof_43 : decode cX12_proof 43 = .ok (.iconst 2, 1) := by decide +kernel
theorem dX12_proof_44 : decode cX12_proof 44 = .ok (.invokevirtual 265, 3) := by decide +kernel
theorem dX12_proof_47 : decode cX12_proof 47 = .ok (.ifCond .eq 5, 3) := by decide +kernel
theorem dX12_proof_50 : decode cX12_proof 50 = .ok (.iconst 0, 1) := by decide +kernel
theorem dX12_proof_51 : decode cX12_proof 51 = .ok (.ireturn, 1) := by decide +kernel
theorem dX12_proof_52 : decode cX12_proof 52 = .ok (.aload_n 0, 1) := by decide +kernel
theorem dX12_proof_53 : decode cX12_proof 53 = .ok (.getfield 133, 3) := by decide +kernel
theorem dX12_proof_56 : decode cX12_proof 56 = .ok (.iload_n 1, 1) := by decide +kernel
theorem dX12_proof_57 : decode cX12_proof 57 = .ok (.iaload, 1) := by decide +kernel
theorem dX12_proof_58 : decode cX12_proof 58 = .ok (.iconst 1, 1) := by decide +kernel
theorem dX12_proof_59 : decode cX12_proof 59 = .ok (.if_icmp .le 7, 3) := by decide +kernel
theorem dX12_proof_62 : decode cX12_proof 62 = .ok (.sipush (-1000), 3) := by decide +kernel
theorem dX12_proof_65 : decode cX12_proof 65 = .ok (.ireturn, 1) := by decide +kernel
theorem dX12_proof_66 : decode cX12_proof 66 = .ok (.aload_n 0, 1) := by decide +kernel
theorem dX12_proof_67 : decode cX12_proof 67 = .ok (.getfield 139, 3) := by decide +kernel
theorem dX12_proof_70 : decode cX12_proof 70 = .ok (.iload_n 1, 1) := by decide +kernel
theorem dX12_proof_71 : decode cX12_proof 71 = .ok (.dup2, 1) := by decide +kernel
theorem dX12_proof_72 : decode cX12_proof 72 = .ok (.iaload, 1) := by decide +kernel
theorem dX12_proof_73 : decode cX12_proof 73 = .ok (.iload_n 2, 1) := by decide +kernel
theorem dX12_proof_74 : decode cX12_proof 74 = .ok (.iadd, 1) := by decide +kernel
theorem dX12_proof_75 : decode cX12_proof 75 = .ok (.iastore, 1) := by decide +kernel
theorem dX12_proof_76 : decode cX12_proof 76 = .ok (.aload_n 0, 1) := by decide +kernel
theorem dX12_proof_77 : decode cX12_proof 77 = .ok (.getfield 139, 3) := by decide +kernel
theorem dX12_proof_80 : decode cX12_proof 80 = .ok (.iload_n 1, 1) := by decide +kernel
theorem dX12_proof_81 : decode cX12_proof 81 = .ok (.iaload, 1) := by decide +kernel
theorem dX12_proof_82 : decode cX12_proof 82 = .ok (.ireturn, 1) := by decide +kernel
def B_M_proof_43   (x1 : Int32) (x2 : Int32) (z1 : Int32) (σ : CS) : Option (Int32 × CS) := bnd (f_M_bad z1 2 σ) (fun r44 σ44 => if r44 = 0 then gix x1 40 (if (rd σ44 65 x1) ≤ 1 then gix x1 40 (gix x1 40 (gix x1 40 (some ((rd (wr σ44 67 x1 ((rd σ44 67 x1) + x2)) 67 x1), (wr σ44 67 x1 ((rd σ44 67 x1) + x2)))))) else some ((-1000), σ44)) else some (0, σ44))
set_option maxHeartbeats 4000000 in
set_option maxRecDepth 100000 in
theorem w_M_proof_43 (C : Cx g p s m args meth c A 3 cX12_proof yX12_proof.cls) (hr : meth.sig.returnType = (some .int))  {res : Int32 × CS}   (x1 : Int32) (x2 : Int32) (z1 : Int32)  (σ : CS) (h : B_M_proof_43 x1 x2 z1 σ = some res) : NMI g p l e s m args below meth c A 2 43 3 am Rr res σ [(0, .ref (am 112)), (1, .int x1), (2, .int x2)] 43 [.int z1, .ref (am 112)] := by
  unfold B_M_proof_43 at h
  refine nw_iconst (v := 2) C dX12_proof_43 (by decide) ?_
  refine nm_callVI (q0 := 0) (As := [.int z1, .int 2]) (rest := []) C h (fun _ _ e => c_M_bad e) tw_1924 kv_X12_bad ml_O rfl ⟨Nat.le_of_ble_eq_true rfl, Nat.le_of_ble_eq_true rfl⟩ rfl dX12_proof_44 rfl (Nat.le_of_ble_eq_true rfl) (fun r44 σ44 h => ?_)
  refine nw_if_eq (tgt := 52) C dX12_proof_47 (by decide) h (fun _ h => ?_) (fun _ h => ?_)
  · refine nw_aload_n C dX12_proof_52 rfl 0 rfl ?_
    refine nw_get (v := .ref (am 65)) C in_X12 0 ml_O rfl 65 (by decide) tw_1638 rfl mf_65 dX12_proof_53 ?_
    refine nw_iload_n C dX12_proof_56 rfl 1 rfl ?_
    refine nw_iald C 40 ml_65 dX12_proof_57 h (fun h => ?_)
    refine nw_iconst (v := 1) C dX12_proof_58 (by decide) ?_
    refine nw_icmp_le (tgt := 66) C dX12_proof_59 (by decide) h (fun _ h => ?_) (fun _ h => ?_)
    · refine nw_aload_n C dX12_proof_66 rfl 0 rfl ?_
      refine nw_get (v := .ref (am 67)) C in_X12 0 ml_O rfl 67 (by decide) tw_1640 rfl mf_67 dX12_proof_67 ?_
      refine nw_iload_n C dX12_proof_70 rfl 1 rfl ?_
      refine nw_dup2 C dX12_proof_71 rfl rfl ?_
      refine nw_iald C 42 ml_67 dX12_proof_72 h (fun h => ?_)
      refine nw_iload_n C dX12_proof_73 rfl 2 rfl ?_
      refine nw_iadd C dX12_proof_74 ?_
      refine nw_iast C 42 ml_67 dX12_proof_75 h ms_67 (fun h => ?_)
      refine nw_aload_n C dX12_proof_76 rfl 0 rfl ?_
      refine nw_get (v := .ref (am 67)) C in_X12 0 ml_O rfl 67 (by decide) tw_1640 rfl mf_67 dX12_proof_77 ?_
      refine nw_iload_n C dX12_proof_80 rfl 1 rfl ?_
      refine nw_iald C 42 ml_67 dX12_proof_81 h (fun h => ?_)
      refine nw_st (st' := [.int (rd (wr σ44 67 x1 ((rd σ44 67 x1) + x2)) 67 x1)]) rfl ?_
      exact nm_iret C hr dX12_proof_82 h
    · refine nw_sipush (v := (-1000)) C dX12_proof_62 (by decide) ?_
      exact nm_iret C hr dX12_proof_65 h
  · refine nw_iconst (v := 0) C dX12_proof_50 (by decide) ?_
    exact nm_iret C hr dX12_proof_51 h
def B_M_proof_19   (x1 : Int32) (x2 : Int32) (z1 : Int32) (σ : CS) : Option (Int32 × CS) := bnd (f_M_bad z1 1 σ) (fun r20 σ20 => if r20 = 0 then bnd (f_M_in x2 (-9) 9 σ20) (fun r32 σ32 => if r32 = 0 then B_M_proof_43 x1 x2 1 σ32 else B_M_proof_43 x1 x2 0 σ32) else some (0, σ20))
set_option maxHeartbeats 4000000 in
set_option maxRecDepth 100000 in
theorem w_M_proof_19 (C : Cx g p s m args meth c A 3 cX12_proof yX12_proof.cls) (hr : meth.sig.returnType = (some .int))  {res : Int32 × CS}   (x1 : Int32) (x2 : Int32) (z1 : Int32)  (σ : CS) (h : B_M_proof_19 x1 x2 z1 σ = some res) : NMI g p l e s m args below meth c A 2 43 3 am Rr res σ [(0, .ref (am 112)), (1, .int x1), (2, .int x2)] 19 [.int z1, .ref (am 112)] := by
  unfold B_M_proof_19 at h
  refine nw_iconst (v := 1) C dX12_proof_19 (by decide) ?_
  refine nm_callVI (q0 := 0) (As := [.int z1, .int 1]) (rest := []) C h (fun _ _ e => c_M_bad e) tw_1924 kv_X12_bad ml_O rfl ⟨Nat.le_of_ble_eq_true rfl, Nat.le_of_ble_eq_true rfl⟩ rfl dX12_proof_20 rfl (Nat.le_of_ble_eq_true rfl) (fun r20 σ20 h => ?_)
  refine nw_if_ne (tgt := 50) C dX12_proof_23 (by decide) h (fun _ h => ?_) (fun _ h => ?_)
  · refine nw_aload_n C dX12_proof_26 rfl 0 rfl ?_
    refine nw_iload_n C dX12_proof_27 rfl 2 rfl ?_
    refine nw_bipush (v := (-9)) C dX12_proof_28 (by decide) ?_
    refine nw_bipush (v := 9) C dX12_proof_30 (by decide) ?_
    refine nm_callSI  (As := [.int x2, .int (-9), .int 9]) (rest := [.ref (am 112)]) C h (fun _ _ e => c_M_in e) tw_1918 ks_X12_in ⟨Nat.le_of_ble_eq_true rfl, Nat.le_of_ble_eq_true rfl⟩ rfl dX12_proof_32 rfl (Nat.le_of_ble_eq_true rfl) (fun r32 σ32 h => ?_)
    refine nw_if_ne (tgt := 42) C dX12_proof_35 (by decide) h (fun _ h => ?_) (fun _ h => ?_)
    · refine nw_iconst (v := 1) C dX12_proof_38 (by decide) ?_
      refine nw_goto (tgt := 43) C dX12_proof_39 (by decide) ?_
      exact nw_lv (lv' := [(0, .ref (am 112)), (1, .int x1), (2, .int x2)]) [0, 1, 2] rfl (w_M_proof_43 C hr x1 x2 1 _ h)
    · refine nw_iconst (v := 0) C dX12_proof_42 (by decide) ?_
      exact nw_lv (lv' := [(0, .ref (am 112)), (1, .int x1), (2, .int x2)]) [0, 1, 2] rfl (w_M_proof_43 C hr x1 x2 0 _ h)
  · refine nw_iconst (v := 0) C dX12_proof_50 (by decide) ?_
    exact nm_iret C hr dX12_proof_51 h
def f_M_proof (p0 : Int32) (p1 : Int32) (σ : CS) : Option (Int32 × CS) := bnd (f_M_isCase p0 (sF σ 0 0)) (fun r8 σ8 => if r8 = 0 then B_M_proof_19 p0 p1 1 σ8 else B_M_proof_19 p0 p1 0 σ8)
set_option maxHeartbeats 4000000 in
set_option maxRecDepth 100000 in
theorem c_M_proof {l : Launch} {g : EG} {am : Nat → Nat} {Rr : va_W} {σ σ' : CS} {r : Int32} {p0 : Int32} {p1 : Int32}  (h : f_M_proof p0 p1 σ = some (r, σ')) : CmI l g yX12_proof (.code yX12_proof cX12_proof 3 (some .int)) 2 43 am Rr σ [.ref (am 112), .int p0, .int p1] r σ' := by
  refine Ct.of rfl (by decide) (Nat.le_of_ble_eq_true rfl) ?_
  intro p e s m args below meth c A C hr
  show NMI g p l e s m args below meth c A 2 43 3 am Rr (r, σ') σ [(0, .ref (am 112)), (1, .int p0), (2, .int p1)] 0 []
  unfold f_M_proof at h
  refine nw_aload_n C dX12_proof_0 rfl 0 rfl ?_
  refine nw_iconst (v := 0) C dX12_proof_1 (by decide) ?_
  refine nw_put (ty := .int) C in_X12 0 ml_O rfl 0 (by decide) tyX12 tyX12_ok nmX12 tw_1573 rfl rfl (by decide +kernel) rfl rfl (Nat.le_of_ble_eq_true rfl) dX12_proof_2 ms_0 ?_
  refine nw_aload_n C dX12_proof_5 rfl 0 rfl ?_
  refine nw_aload_n C dX12_proof_6 rfl 0 rfl ?_
  refine nw_iload_n C dX12_proof_7 rfl 1 rfl ?_
  refine nm_callVI (q0 := 0) (As := [.int p0]) (rest := [.ref (am 112)]) C h (fun _ _ e => c_M_isCase e) tw_2251 kv_X12_isCase ml_O rfl ⟨Nat.le_of_ble_eq_true rfl, Nat.le_of_ble_eq_true rfl⟩ rfl dX12_proof_8 rfl (Nat.le_of_ble_eq_true rfl) (fun r8 σ8 h => ?_)
  refine nw_if_ne (tgt := 18) C dX12_proof_11 (by decide) h (fun _ h => ?_) (fun _ h => ?_)
  · refine nw_iconst (v := 1) C dX12_proof_14 (by decide) ?_
    refine nw_goto (tgt := 19) C dX12_proof_15 (by decide) ?_
    exact nw_lv (lv' := [(0, .ref (am 112)), (1, .int p0), (2, .int p1)]) [0, 1, 2] rfl (w_M_proof_19 C hr p0 p1 1 _ h)
  · refine nw_iconst (v := 0) C dX12_proof_18 (by decide) ?_
    exact nw_lv (lv' := [(0, .ref (am 112)), (1, .int p0), (2, .int p1)]) [0, 1, 2] rfl (w_M_proof_19 C hr p0 p1 0 _ h)
theorem dX12_of_0 : decode cX12_of 0 = .ok (.aload_n 0, 1) := by decide +kernel
theorem dX12_of_1 : decode cX12_of 1 = .ok (.iconst 0, 1) := by decide +kernel
theorem dX12_of_2 : decode cX12_of 2 = .ok (.putfield 253, 3) := by decide +kernel
theorem dX12_of_5 : decode cX12_of 5 = .ok (.aload_n 0, 1) := by decide +kernel
theorem dX12_of_6 : decode cX12_of 6 = .ok (.aload_n 0, 1) := by decide +kernel
theorem dX12_of_7 : decode cX12_of 7 = .ok (.iload_n 1, 1) := by decide +kernel
theorem dX12_of_8 : decode cX12_of 8 = .ok (.invokevirtual 569, 3) := by decide +kernel
theorem dX12_of_11 : decode cX12_of 11 = .ok (.ifCond .ne 7, 3) := by decide +kernel
theorem dX12_of_14 : decode cX12_of 14 = .ok (.iconst 1, 1) := by decide +kernel
theorem dX12_of_15 : decode cX12_of 15 = .ok (.goto 4, 3) := by decide +kernel
theorem dX12_of_18 : decode cX12_of 18 = .ok (.iconst 0, 1) := by decide +kernel
theorem dX12_of_19 : decode cX12_of 19 = .ok (.iconst 1, 1) := by decide +kernel
theorem dX12_of_20 : decode cX12_of 20 = .ok (.invokevirtual 265, 3) := by decide +kernel
theorem dX12_of_23 : decode cX12_of 23 = .ok (.ifCond .ne 26, 3) := by decide +kernel
theorem dX12_of_26 : decode cX12_of 26 = .ok (.aload_n 0, 1) := by decide +kernel
theorem dX12_of_27 : decode cX12_of 27 = .ok (.iload_n 2, 1) := by decide +kernel
theorem dX12_of_28 : decode cX12_of 28 = .ok (.iconst 0, 1) := by decide +kernel
theorem dX12_of_29 : decode cX12_of 29 = .ok (.bipush 7, 2) := by decide +kernel
theorem dX12_of_31 : decode cX12_of 31 = .ok (.invokestatic 257, 3) := by decide +kernel
theorem dX12_of_34 : decode cX12_of 34 = .ok (.ifCond .ne 7, 3) := by decide +kernel
theorem dX12_of_37 : decode cX12_of 37 = .ok (.iconst 1, 1) := by decide +kernel
theorem dX12_of_38 : decode cX12_of 38 = .ok (.goto 4, 3) := by decide +kernel
theorem dX12_of_41 : decode cX12_of 41 = .ok (.iconst 0, 1) := by decide +kernel
theorem dX12_of_42 : decode cX12_of 42 = .ok (.iconst 2, 1) := by decide +kernel
theorem dX12_of_43 : decode cX12_of 43 = .ok (.invokevirtual 265, 3) := by decide +kernel
theorem dX12_of_46 : decode cX12_of 46 = .ok (.ifCond .eq 5, 3) := by decide +kernel
theorem dX12_of_49 : decode cX12_of 49 = .ok (.iconst 0, 1) := by decide +kernel
theorem dX12_of_50 : decode cX12_of 50 = .ok (.ireturn, 1) := by decide +kernel
theorem dX12_of_51 : decode cX12_of 51 = .ok (.iload_n 2, 1) := by decide +kernel
theorem dX12_of_52 : decode cX12_of 52 = .ok (.tableswitch 107 0 7 #[48, 55, 62, 69, 107, 107, 107, 100], 48) := by decide +kernel
theorem dX12_of_100 : decode cX12_of 100 = .ok (.aload_n 0, 1) := by decide +kernel
theorem dX12_of_101 : decode cX12_of 101 = .ok (.getfield 133, 3) := by decide +kernel
theorem dX12_of_104 : decode cX12_of 104 = .ok (.iload_n 1, 1) := by decide +kernel
theorem dX12_of_105 : decode cX12_of 105 = .ok (.iaload, 1) := by decide +kernel
theorem dX12_of_106 : decode cX12_of 106 = .ok (.ireturn, 1) := by decide +kernel
theorem dX12_of_107 : decode cX12_of 107 = .ok (.aload_n 0, 1) := by decide +kernel
theorem dX12_of_108 : decode cX12_of 108 = .ok (.getfield 130, 3) := by decide +kernel
theorem dX12_of_111 : decode cX12_of 111 = .ok (.iload_n 1, 1) := by decide +kernel
theorem dX12_of_112 : decode cX12_of 112 = .ok (.iaload, 1) := by decide +kernel
theorem dX12_of_113 : decode cX12_of 113 = .ok (.ireturn, 1) := by decide +kernel
theorem dX12_of_114 : decode cX12_of 114 = .ok (.aload_n 0, 1) := by decide +kernel
theorem dX12_of_115 : decode cX12_of 115 = .ok (.getfield 136, 3) := by decide +kernel
theorem dX12_of_118 : decode cX12_of 118 = .ok (.iload_n 1, 1) := by decide +kernel
theorem dX12_of_119 : decode cX12_of 119 = .ok (.iaload, 1) := by decide +kernel
theorem dX12_of_120 : decode cX12_of 120 = .ok (.ireturn, 1) := by decide +kernel
theorem dX12_of_121 : decode cX12_of 121 = .ok (.aload_n 0, 1) := by decide +kernel
theorem dX12_of_122 : decode cX12_of 122 = .ok (.getfield 133, 3) := by decide +kernel
theorem dX12_of_125 : decode cX12_of 125 = .ok (.iload_n 1, 1) := by decide +kernel
theorem dX12_of_126 : decode cX12_of 126 = .ok (.iaload, 1) := by decide +kernel
theorem dX12_of_127 : decode cX12_of 127 = .ok (.iconst 3, 1) := by decide +kernel
theorem dX12_of_128 : decode cX12_of 128 = .ok (.if_icmp .eq 13, 3) := by decide +kernel
theorem dX12_of_131 : decode cX12_of 131 = .ok (.aload_n 0, 1) := by decide +kernel
theorem dX12_of_132 : decode cX12_of 132 = .ok (.getfield 133, 3) := by decide +kernel
theorem dX12_of_135 : decode cX12_of 135 = .ok (.iload_n 1, 1) := by decide +kernel
theorem dX12_of_136 : decode cX12_of 136 = .ok (.iaload, 1) := by decide +kernel
theorem dX12_of_137 : decode cX12_of 137 = .ok (.iconst 4, 1) := by decide +kernel
theorem dX12_of_138 : decode cX12_of 138 = .ok (.if_icmp .ne 12, 3) := by decide +kernel
theorem dX12_of_141 : decode cX12_of 141 = .ok (.aload_n 0, 1) := by decide +kernel
theorem dX12_of_142 : decode cX12_of 142 = .ok (.getfield 142, 3) := by decide +kernel
theorem dX12_of_145 : decode cX12_of 145 = .ok (.iload_n 1, 1) := by decide +kernel
theorem dX12_of_146 : decode cX12_of 146 = .ok (.iaload, 1) := by decide +kernel
theorem dX12_of_147 : decode cX12_of 147 = .ok (.goto 4, 3) := by decide +kernel
theorem dX12_of_150 : decode cX12_of 150 = .ok (.iconst (-1), 1) := by decide +kernel
theorem dX12_of_151 : decode cX12_of 151 = .ok (.ireturn, 1) := by decide +kernel
theorem dX12_of_152 : decode cX12_of 152 = .ok (.aload_n 0, 1) := by decide +kernel
theorem dX12_of_153 : decode cX12_of 153 = .ok (.getfield 148, 3) := by decide +kernel
theorem dX12_of_156 : decode cX12_of 156 = .ok (.iload_n 1, 1) := by decide +kernel
theorem dX12_of_157 : decode cX12_of 157 = .ok (.iaload, 1) := by decide +kernel
theorem dX12_of_158 : decode cX12_of 158 = .ok (.ireturn, 1) := by decide +kernel
theorem dX12_of_159 : decode cX12_of 159 = .ok (.aload_n 0, 1) := by decide +kernel
theorem dX12_of_160 : decode cX12_of 160 = .ok (.getfield 145, 3) := by decide +kernel
theorem dX12_of_163 : decode cX12_of 163 = .ok (.iconst 3, 1) := by decide +kernel
theorem dX12_of_164 : decode cX12_of 164 = .ok (.iload_n 1, 1) := by decide +kernel
theorem dX12_of_165 : decode cX12_of 165 = .ok (.imul, 1) := by decide +kernel
theorem dX12_of_166 : decode cX12_of 166 = .ok (.iload_n 2, 1) := by decide +kernel
theorem dX12_of_167 : decode cX12_of 167 = .ok (.iadd, 1) := by decide +kernel
theorem dX12_of_168 : decode cX12_of 168 = .ok (.iconst 4, 1) := by decide +kernel
theorem dX12_of_169 : decode cX12_of 169 = .ok (.isub, 1) := by decide +kernel
theorem dX12_of_170 : decode cX12_of 170 = .ok (.iaload, 1) := by decide +kernel
theorem dX12_of_171 : decode cX12_of 171 = .ok (.ireturn, 1) := by decide +kernel
def B_M_of_141   (x1 : Int32) (σ : CS) : Option (Int32 × CS) := gix x1 40 (some ((rd σ 68 x1), σ))
set_option maxHeartbeats 4000000 in
set_option maxRecDepth 100000 in
theorem w_M_of_141 (C : Cx g p s m args meth c A 3 cX12_of yX12_of.cls) (hr : meth.sig.returnType = (some .int))  {res : Int32 × CS}   (x1 : Int32)  (σ : CS) (h : B_M_of_141 x1 σ = some res) : NMI g p l e s m args below meth c A 2 43 3 am Rr res σ [(0, .ref (am 112)), (1, .int x1)] 141 [] := by
  unfold B_M_of_141 at h
  refine nw_aload_n C dX12_of_141 rfl 0 rfl ?_
  refine nw_get (v := .ref (am 68)) C in_X12 0 ml_O rfl 68 (by decide) tw_1641 rfl mf_68 dX12_of_142 ?_
  refine nw_iload_n C dX12_of_145 rfl 1 rfl ?_
  refine nw_iald C 43 ml_68 dX12_of_146 h (fun h => ?_)
  refine nw_goto (tgt := 151) C dX12_of_147 (by decide) ?_
  exact nm_iret C hr dX12_of_151 h
def B_M_of_42   (x1 : Int32) (x2 : Int32) (z1 : Int32) (σ : CS) : Option (Int32 × CS) := bnd (f_M_bad z1 2 σ) (fun r43 σ43 => if r43 = 0 then if x2 = 0 then gix x1 40 (some ((rd σ43 65 x1), σ43)) else if x2 = 1 then gix x1 40 (some ((rd σ43 64 x1), σ43)) else if x2 = 2 then gix x1 40 (some ((rd σ43 66 x1), σ43)) else if x2 = 3 then gix x1 40 (if (rd σ43 65 x1) = 3 then B_M_of_141 x1 σ43 else gix x1 40 (if (rd σ43 65 x1) = 4 then B_M_of_141 x1 σ43 else some ((-1), σ43))) else if x2 = 4 then gix (((3 * x1) + x2) - 4) 120 (some ((rd σ43 69 (((3 * x1) + x2) - 4)), σ43)) else if x2 = 5 then gix (((3 * x1) + x2) - 4) 120 (some ((rd σ43 69 (((3 * x1) + x2) - 4)), σ43)) else if x2 = 6 then gix (((3 * x1) + x2) - 4) 120 (some ((rd σ43 69 (((3 * x1) + x2) - 4)), σ43)) else if x2 = 7 then gix x1 40 (some ((rd σ43 70 x1), σ43)) else gix (((3 * x1) + x2) - 4) 120 (some ((rd σ43 69 (((3 * x1) + x2) - 4)), σ43)) else some (0, σ43))
set_option maxHeartbeats 4000000 in
set_option maxRecDepth 100000 in
theorem w_M_of_42 (C : Cx g p s m args meth c A 3 cX12_of yX12_of.cls) (hr : meth.sig.returnType = (some .int))  {res : Int32 × CS}   (x1 : Int32) (x2 : Int32) (z1 : Int32)  (σ : CS) (h : B_M_of_42 x1 x2 z1 σ = some res) : NMI g p l e s m args below meth c A 2 43 3 am Rr res σ [(0, .ref (am 112)), (1, .int x1), (2, .int x2)] 42 [.int z1, .ref (am 112)] := by
  unfold B_M_of_42 at h
  refine nw_iconst (v := 2) C dX12_of_42 (by decide) ?_
  refine nm_callVI (q0 := 0) (As := [.int z1, .int 2]) (rest := []) C h (fun _ _ e => c_M_bad e) tw_1924 kv_X12_bad ml_O rfl ⟨Nat.le_of_ble_eq_true rfl, Nat.le_of_ble_eq_true rfl⟩ rfl dX12_of_43 rfl (Nat.le_of_ble_eq_true rfl) (fun r43 σ43 h => ?_)
  refine nw_if_eq (tgt := 51) C dX12_of_46 (by decide) h (fun _ h => ?_) (fun _ h => ?_)
  · refine nw_iload_n C dX12_of_51 rfl 2 rfl ?_
    refine nw_tsCase (tgt := 100) C 0 dX12_of_52 (by decide) (by decide) rfl (by decide) h (fun _ h => ?_) (fun hc0 h => ?_)
    · refine nw_aload_n C dX12_of_100 rfl 0 rfl ?_
      refine nw_get (v := .ref (am 65)) C in_X12 0 ml_O rfl 65 (by decide) tw_1638 rfl mf_65 dX12_of_101 ?_
      refine nw_iload_n C dX12_of_104 rfl 1 rfl ?_
      refine nw_iald C 40 ml_65 dX12_of_105 h (fun h => ?_)
      exact nm_iret C hr dX12_of_106 h
    · refine nw_tsCase (tgt := 107) C 1 dX12_of_52 (by decide) (by decide) rfl (by decide) h (fun _ h => ?_) (fun hc1 h => ?_)
      · refine nw_aload_n C dX12_of_107 rfl 0 rfl ?_
        refine nw_get (v := .ref (am 64)) C in_X12 0 ml_O rfl 64 (by decide) tw_1637 rfl mf_64 dX12_of_108 ?_
        refine nw_iload_n C dX12_of_111 rfl 1 rfl ?_
        refine nw_iald C 39 ml_64 dX12_of_112 h (fun h => ?_)
        exact nm_iret C hr dX12_of_113 h
      · refine nw_tsCase (tgt := 114) C 2 dX12_of_52 (by decide) (by decide) rfl (by decide) h (fun _ h => ?_) (fun hc2 h => ?_)
        · refine nw_aload_n C dX12_of_114 rfl 0 rfl ?_
          refine nw_get (v := .ref (am 66)) C in_X12 0 ml_O rfl 66 (by decide) tw_1639 rfl mf_66 dX12_of_115 ?_
          refine nw_iload_n C dX12_of_118 rfl 1 rfl ?_
          refine nw_iald C 41 ml_66 dX12_of_119 h (fun h => ?_)
          exact nm_iret C hr dX12_of_120 h
        · refine nw_tsCase (tgt := 121) C 3 dX12_of_52 (by decide) (by decide) rfl (by decide) h (fun _ h => ?_) (fun hc3 h => ?_)
          · refine nw_aload_n C dX12_of_121 rfl 0 rfl ?_
            refine nw_get (v := .ref (am 65)) C in_X12 0 ml_O rfl 65 (by decide) tw_1638 rfl mf_65 dX12_of_122 ?_
            refine nw_iload_n C dX12_of_125 rfl 1 rfl ?_
            refine nw_iald C 40 ml_65 dX12_of_126 h (fun h => ?_)
            refine nw_iconst (v := 3) C dX12_of_127 (by decide) ?_
            refine nw_icmp_eq (tgt := 141) C dX12_of_128 (by decide) h (fun _ h => ?_) (fun _ h => ?_)
            · exact nw_lv (lv' := [(0, .ref (am 112)), (1, .int x1)]) [0, 1] rfl (w_M_of_141 C hr x1 _ h)
            · refine nw_aload_n C dX12_of_131 rfl 0 rfl ?_
              refine nw_get (v := .ref (am 65)) C in_X12 0 ml_O rfl 65 (by decide) tw_1638 rfl mf_65 dX12_of_132 ?_
              refine nw_iload_n C dX12_of_135 rfl 1 rfl ?_
              refine nw_iald C 40 ml_65 dX12_of_136 h (fun h => ?_)
              refine nw_iconst (v := 4) C dX12_of_137 (by decide) ?_
              refine nw_icmp_ne (tgt := 150) C dX12_of_138 (by decide) h (fun _ h => ?_) (fun _ h => ?_)
              · exact nw_lv (lv' := [(0, .ref (am 112)), (1, .int x1)]) [0, 1] rfl (w_M_of_141 C hr x1 _ h)
              · refine nw_iconst (v := (-1)) C dX12_of_150 (by decide) ?_
                exact nm_iret C hr dX12_of_151 h
          · refine nw_tsCase (tgt := 159) C 4 dX12_of_52 (by decide) (by decide) rfl (by decide) h (fun _ h => ?_) (fun hc4 h => ?_)
            · refine nw_aload_n C dX12_of_159 rfl 0 rfl ?_
              refine nw_get (v := .ref (am 69)) C in_X12 0 ml_O rfl 69 (by decide) tw_1642 rfl mf_69 dX12_of_160 ?_
              refine nw_iconst (v := 3) C dX12_of_163 (by decide) ?_
              refine nw_iload_n C dX12_of_164 rfl 1 rfl ?_
              refine nw_imul C dX12_of_165 ?_
              refine nw_iload_n C dX12_of_166 rfl 2 rfl ?_
              refine nw_iadd C dX12_of_167 ?_
              refine nw_iconst (v := 4) C dX12_of_168 (by decide) ?_
              refine nw_isub C dX12_of_169 ?_
              refine nw_iald C 44 ml_69 dX12_of_170 h (fun h => ?_)
              exact nm_iret C hr dX12_of_171 h
            · refine nw_tsCase (tgt := 159) C 5 dX12_of_52 (by decide) (by decide) rfl (by decide) h (fun _ h => ?_) (fun hc5 h => ?_)
              · refine nw_aload_n C dX12_of_159 rfl 0 rfl ?_
                refine nw_get (v := .ref (am 69)) C in_X12 0 ml_O rfl 69 (by decide) tw_1642 rfl mf_69 dX12_of_160 ?_
                refine nw_iconst (v := 3) C dX12_of_163 (by decide) ?_
                refine nw_iload_n C dX12_of_164 rfl 1 rfl ?_
                refine nw_imul C dX12_of_165 ?_
                refine nw_iload_n C dX12_of_166 rfl 2 rfl ?_
                refine nw_iadd C dX12_of_167 ?_
                refine nw_iconst (v := 4) C dX12_of_168 (by decide) ?_
                refine nw_isub C dX12_of_169 ?_
                refine nw_iald C 44 ml_69 dX12_of_170 h (fun h => ?_)
                exact nm_iret C hr dX12_of_171 h
              · refine nw_tsCase (tgt := 159) C 6 dX12_of_52 (by decide) (by decide) rfl (by decide) h (fun _ h => ?_) (fun hc6 h => ?_)
                · refine nw_aload_n C dX12_of_159 rfl 0 rfl ?_
                  refine nw_get (v := .ref (am 69)) C in_X12 0 ml_O rfl 69 (by decide) tw_1642 rfl mf_69 dX12_of_160 ?_
                  refine nw_iconst (v := 3) C dX12_of_163 (by decide) ?_
                  refine nw_iload_n C dX12_of_164 rfl 1 rfl ?_
                  refine nw_imul C dX12_of_165 ?_
                  refine nw_iload_n C dX12_of_166 rfl 2 rfl ?_
                  refine nw_iadd C dX12_of_167 ?_
                  refine nw_iconst (v := 4) C dX12_of_168 (by decide) ?_
                  refine nw_isub C dX12_of_169 ?_
                  refine nw_iald C 44 ml_69 dX12_of_170 h (fun h => ?_)
                  exact nm_iret C hr dX12_of_171 h
                · refine nw_tsCase (tgt := 152) C 7 dX12_of_52 (by decide) (by decide) rfl (by decide) h (fun _ h => ?_) (fun hc7 h => ?_)
                  · refine nw_aload_n C dX12_of_152 rfl 0 rfl ?_
                    refine nw_get (v := .ref (am 70)) C in_X12 0 ml_O rfl 70 (by decide) tw_1643 rfl mf_70 dX12_of_153 ?_
                    refine nw_iload_n C dX12_of_156 rfl 1 rfl ?_
                    refine nw_iald C 45 ml_70 dX12_of_157 h (fun h => ?_)
                    exact nm_iret C hr dX12_of_158 h
                  · refine nw_tsOut (tgt := 159) C dX12_of_52 (by have q0 := lv_neT hc0 (a := 0) (by decide); have q1 := lv_neT hc1 (a := 1) (by decide); have q2 := lv_neT hc2 (a := 2) (by decide); have q3 := lv_neT hc3 (a := 3) (by decide); have q4 := lv_neT hc4 (a := 4) (by decide); have q5 := lv_neT hc5 (a := 5) (by decide); have q6 := lv_neT hc6 (a := 6) (by decide); have q7 := lv_neT hc7 (a := 7) (by decide); omega) (by decide) ?_
                    refine nw_aload_n C dX12_of_159 rfl 0 rfl ?_
                    refine nw_get (v := .ref (am 69)) C in_X12 0 ml_O rfl 69 (by decide) tw_1642 rfl mf_69 dX12_of_160 ?_
                    refine nw_iconst (v := 3) C dX12_of_163 (by decide) ?_
                    refine nw_iload_n C dX12_of_164 rfl 1 rfl ?_
                    refine nw_imul C dX12_of_165 ?_
                    refine nw_iload_n C dX12_of_166 rfl 2 rfl ?_
                    refine nw_iadd C dX12_of_167 ?_
                    refine nw_iconst (v := 4) C dX12_of_168 (by decide) ?_
                    refine nw_isub C dX12_of_169 ?_
                    refine nw_iald C 44 ml_69 dX12_of_170 h (fun h => ?_)
                    exact nm_iret C hr dX12_of_171 h
  · refine nw_iconst (v := 0) C dX12_of_49 (by decide) ?_
    exact nm_iret C hr dX12_of_50 h
def B_M_of_19   (x1 : Int32) (x2 : Int32) (z1 : Int32) (σ : CS) : Option (Int32 × CS) := bnd (f_M_bad z1 1 σ) (fun r20 σ20 => if r20 = 0 then bnd (f_M_in x2 0 7 σ20) (fun r31 σ31 => if r31 = 0 then B_M_of_42 x1 x2 1 σ31 else B_M_of_42 x1 x2 0 σ31) else some (0, σ20))
set_option maxHeartbeats 4000000 in
set_option maxRecDepth 100000 in
theorem w_M_of_19 (C : Cx g p s m args meth c A 3 cX12_of yX12_of.cls) (hr : meth.sig.returnType = (some .int))  {res : Int32 × CS}   (x1 : Int32) (x2 : Int32) (z1 : Int32)  (σ : CS) (h : B_M_of_19 x1 x2 z1 σ = some res) : NMI g p l e s m args below meth c A 2 43 3 am Rr res σ [(0, .ref (am 112)), (1, .int x1), (2, .int x2)] 19 [.int z1, .ref (am 112)] := by
  unfold B_M_of_19 at h
  refine nw_iconst (v := 1) C dX12_of_19 (by decide) ?_
  refine nm_callVI (q0 := 0) (As := [.int z1, .int 1]) (rest := []) C h (fun _ _ e => c_M_bad e) tw_1924 kv_X12_bad ml_O rfl ⟨Nat.le_of_ble_eq_true rfl, Nat.le_of_ble_eq_true rfl⟩ rfl dX12_of_20 rfl (Nat.le_of_ble_eq_true rfl) (fun r20 σ20 h => ?_)
  refine nw_if_ne (tgt := 49) C dX12_of_23 (by decide) h (fun _ h => ?_) (fun _ h => ?_)
  · refine nw_aload_n C dX12_of_26 rfl 0 rfl ?_
    refine nw_iload_n C dX12_of_27 rfl 2 rfl ?_
    refine nw_iconst (v := 0) C dX12_of_28 (by decide) ?_
    refine nw_bipush (v := 7) C dX12_of_29 (by decide) ?_
    refine nm_callSI  (As := [.int x2, .int 0, .int 7]) (rest := [.ref (am 112)]) C h (fun _ _ e => c_M_in e) tw_1918 ks_X12_in ⟨Nat.le_of_ble_eq_true rfl, Nat.le_of_ble_eq_true rfl⟩ rfl dX12_of_31 rfl (Nat.le_of_ble_eq_true rfl) (fun r31 σ31 h => ?_)
    refine nw_if_ne (tgt := 41) C dX12_of_34 (by decide) h (fun _ h => ?_) (fun _ h => ?_)
    · refine nw_iconst (v := 1) C dX12_of_37 (by decide) ?_
      refine nw_goto (tgt := 42) C dX12_of_38 (by decide) ?_
      exact nw_lv (lv' := [(0, .ref (am 112)), (1, .int x1), (2, .int x2)]) [0, 1, 2] rfl (w_M_of_42 C hr x1 x2 1 _ h)
    · refine nw_iconst (v := 0) C dX12_of_41 (by decide) ?_
      exact nw_lv (lv' := [(0, .ref (am 112)), (1, .int x1), (2, .int x2)]) [0, 1, 2] rfl (w_M_of_42 C hr x1 x2 0 _ h)
  · refine nw_iconst (v := 0) C dX12_of_49 (by decide) ?_
    exact nm_iret C hr dX12_of_50 h
def f_M_of (p0 : Int32) (p1 : Int32) (σ : CS) : Option (Int32 × CS) := bnd (f_M_isCase p0 (sF σ 0 0)) (fun r8 σ8 => if r8 = 0 then B_M_of_19 p0 p1 1 σ8 else B_M_of_19 p0 p1 0 σ8)
set_option maxHeartbeats 4000000 in
set_option maxRecDepth 100000 in
theorem c_M_of {l : Launch} {g : EG} {am : Nat → Nat} {Rr : va_W} {σ σ' : CS} {r : Int32} {p0 : Int32} {p1 : Int32}  (h : f_M_of p0 p1 σ = some (r, σ')) : CmI l g yX12_of (.code yX12_of cX12_of 3 (some .int)) 2 43 am Rr σ [.ref (am 112), .int p0, .int p1] r σ' := by
  refine Ct.of rfl (by decide) (Nat.le_of_ble_eq_true rfl) ?_
  intro p e s m args below meth c A C hr
  show NMI g p l e s m args below meth c A 2 43 3 am Rr (r, σ') σ [(0, .ref (am 112)), (1, .int p0), (2, .int p1)] 0 []
  unfold f_M_of at h
  refine nw_aload_n C dX12_of_0 rfl 0 rfl ?_
  refine nw_iconst (v := 0) C dX12_of_1 (by decide) ?_
  refine nw_put (ty := .int) C in_X12 0 ml_O rfl 0 (by decide) tyX12 tyX12_ok nmX12 tw_1573 rfl rfl (by decide +kernel) rfl rfl (Nat.le_of_ble_eq_true rfl) dX12_of_2 ms_0 ?_
  refine nw_aload_n C dX12_of_5 rfl 0 rfl ?_
  refine nw_aload_n C dX12_of_6 rfl 0 rfl ?_
  refine nw_iload_n C dX12_of_7 rfl 1 rfl ?_
  refine nm_callVI (q0 := 0) (As := [.int p0]) (rest := [.ref (am 112)]) C h (fun _ _ e => c_M_isCase e) tw_2251 kv_X12_isCase ml_O rfl ⟨Nat.le_of_ble_eq_true rfl, Nat.le_of_ble_eq_true rfl⟩ rfl dX12_of_8 rfl (Nat.le_of_ble_eq_true rfl) (fun r8 σ8 h => ?_)
  refine nw_if_ne (tgt := 18) C dX12_of_11 (by decide) h (fun _ h => ?_) (fun _ h => ?_)
  · refine nw_iconst (v := 1) C dX12_of_14 (by decide) ?_
    refine nw_goto (tgt := 19) C dX12_of_15 (by decide) ?_
    exact nw_lv (lv' := [(0, .ref (am 112)), (1, .int p0), (2, .int p1)]) [0, 1, 2] rfl (w_M_of_19 C hr p0 p1 1 _ h)
  · refine nw_iconst (v := 0) C dX12_of_18 (by decide) ?_
    exact nw_lv (lv' := [(0, .ref (am 112)), (1, .int p0), (2, .int p1)]) [0, 1, 2] rfl (w_M_of_19 C hr p0 p1 0 _ h)
theorem dX12_becomes_0 : decode cX12_becomes 0 = .ok (.aload_n 0, 1) := by decide +kernel
theorem dX12_becomes_1 : decode cX12_becomes 1 = .ok (.getfield 133, 3) := by decide +kernel
theorem dX12_becomes_4 : decode cX12_becomes 4 = .ok (.iload_n 1, 1) := by decide +kernel
theorem dX12_becomes_5 : decode cX12_becomes 5 = .ok (.iaload, 1) := by decide +kernel
theorem dX12_becomes_6 : decode cX12_becomes 6 = .ok (.iload_n 2, 1) := by decide +kernel
theorem dX12_becomes_7 : decode cX12_becomes 7 = .ok (.if_icmp .ne 4, 3) := by decide +kernel
theorem dX12_becomes_10 : decode cX12_becomes 10 = .ok (.return_, 1) := by decide +kernel
theorem dX12_becomes_11 : decode cX12_becomes 11 = .ok (.aload_n 0, 1) := by decide +kernel
theorem dX12_becomes_12 : decode cX12_becomes 12 = .ok (.getfield 133, 3) := by decide +kernel
theorem dX12_becomes_15 : decode cX12_becomes 15 = .ok (.iload_n 1, 1) := by decide +kernel
theorem dX12_becomes_16 : decode cX12_becomes 16 = .ok (.iload_n 2, 1) := by decide +kernel
theorem dX12_becomes_17 : decode cX12_becomes 17 = .ok (.iastore, 1) := by decide +kernel
theorem dX12_becomes_18 : decode cX12_becomes 18 = .ok (.aload_n 0, 1) := by decide +kernel
theorem dX12_becomes_19 : decode cX12_becomes 19 = .ok (.getfield 136, 3) := by decide +kernel
theorem dX12_becomes_22 : decode cX12_becomes 22 = .ok (.iload_n 1, 1) := by decide +kernel
theorem dX12_becomes_23 : decode cX12_becomes 23 = .ok (.aload_n 0, 1) := by decide +kernel
theorem dX12_becomes_24 : decode cX12_becomes 24 = .ok (.getfield 513, 3) := by decide +kernel
theorem dX12_becomes_27 : decode cX12_becomes 27 = .ok (.iastore, 1) := by decide +kernel
theorem dX12_becomes_28 : decode cX12_becomes 28 = .ok (.return_, 1) := by decide +kernel
def f_M_becomes (p0 : Int32) (p1 : Int32) (σ : CS) : Option (Int32 × CS) := gix p0 40 (if (rd σ 65 p0) = p1 then some (0, σ) else gix p0 40 (gix p0 40 (some (0, (wr (wr σ 65 p0 p1) 66 p0 (σ.1 1))))))
set_option maxHeartbeats 4000000 in
set_option maxRecDepth 100000 in
theorem c_M_becomes {l : Launch} {g : EG} {am : Nat → Nat} {Rr : va_W} {σ σ' : CS} {r : Int32} {p0 : Int32} {p1 : Int32}  (h : f_M_becomes p0 p1 σ = some (r, σ')) : CmV l g yX12_becomes (.code yX12_becomes cX12_becomes 3 none) 0 0 am Rr σ [.ref (am 112), .int p0, .int p1] r σ' := by
  refine Ct.of rfl (by decide) (Nat.le_of_ble_eq_true rfl) ?_
  intro p e s m args below meth c A C hr
  show NMV g p l e s m args below meth c A 0 0 3 am Rr (r, σ') σ [(0, .ref (am 112)), (1, .int p0), (2, .int p1)] 0 []
  unfold f_M_becomes at h
  refine nw_aload_n C dX12_becomes_0 rfl 0 rfl ?_
  refine nw_get (v := .ref (am 65)) C in_X12 0 ml_O rfl 65 (by decide) tw_1638 rfl mf_65 dX12_becomes_1 ?_
  refine nw_iload_n C dX12_becomes_4 rfl 1 rfl ?_
  refine nw_iald C 40 ml_65 dX12_becomes_5 h (fun h => ?_)
  refine nw_iload_n C dX12_becomes_6 rfl 2 rfl ?_
  refine nw_icmp_ne (tgt := 11) C dX12_becomes_7 (by decide) h (fun _ h => ?_) (fun _ h => ?_)
  · exact nm_vret C hr dX12_becomes_10 h
  · refine nw_aload_n C dX12_becomes_11 rfl 0 rfl ?_
    refine nw_get (v := .ref (am 65)) C in_X12 0 ml_O rfl 65 (by decide) tw_1638 rfl mf_65 dX12_becomes_12 ?_
    refine nw_iload_n C dX12_becomes_15 rfl 1 rfl ?_
    refine nw_iload_n C dX12_becomes_16 rfl 2 rfl ?_
    refine nw_iast C 40 ml_65 dX12_becomes_17 h ms_65 (fun h => ?_)
    refine nw_aload_n C dX12_becomes_18 rfl 0 rfl ?_
    refine nw_get (v := .ref (am 66)) C in_X12 0 ml_O rfl 66 (by decide) tw_1639 rfl mf_66 dX12_becomes_19 ?_
    refine nw_iload_n C dX12_becomes_22 rfl 1 rfl ?_
    refine nw_aload_n C dX12_becomes_23 rfl 0 rfl ?_
    refine nw_get (v := .int (σ.1 1)) C in_X12 0 ml_O rfl 1 (by decide) tw_1574 rfl rfl dX12_becomes_24 ?_
    refine nw_iast C 41 ml_66 dX12_becomes_27 h ms_66 (fun h => ?_)
    exact nm_vret C hr dX12_becomes_28 h
theorem dX12_isAnswered_0 : decode cX12_isAnswered 0 = .ok (.aload_n 0, 1) := by decide +kernel
theorem dX12_isAnswered_1 : decode cX12_isAnswered 1 = .ok (.aload_n 0, 1) := by decide +kernel
theorem dX12_isAnswered_2 : decode cX12_isAnswered 2 = .ok (.getfield 130, 3) := by decide +kernel
theorem dX12_isAnswered_5 : decode cX12_isAnswered 5 = .ok (.iload_n 1, 1) := by decide +kernel
theorem dX12_isAnswered_6 : decode cX12_isAnswered 6 = .ok (.iaload, 1) := by decide +kernel
theorem dX12_isAnswered_7 : decode cX12_isAnswered 7 = .ok (.invokevirtual 510, 3) := by decide +kernel
theorem dX12_isAnswered_10 : decode cX12_isAnswered 10 = .ok (.ifCond .ne 5, 3) := by decide +kernel
theorem dX12_isAnswered_13 : decode cX12_isAnswered 13 = .ok (.iconst 1, 1) := by decide +kernel
theorem dX12_isAnswered_14 : decode cX12_isAnswered 14 = .ok (.ireturn, 1) := by decide +kernel
theorem dX12_isAnswered_15 : decode cX12_isAnswered 15 = .ok (.aload_n 0, 1) := by decide +kernel
theorem dX12_isAnswered_16 : decode cX12_isAnswered 16 = .ok (.aload_n 0, 1) := by decide +kernel
theorem dX12_isAnswered_17 : decode cX12_isAnswered 17 = .ok (.getfield 513, 3) := by decide +kernel
theorem dX12_isAnswered_20 : decode cX12_isAnswered 20 = .ok (.iconst 4, 1) := by decide +kernel
theorem dX12_isAnswered_21 : decode cX12_isAnswered 21 = .ok (.invokevirtual 500, 3) := by decide +kernel
theorem dX12_isAnswered_24 : decode cX12_isAnswered 24 = .ok (.iconst 1, 1) := by decide +kernel
theorem dX12_isAnswered_25 : decode cX12_isAnswered 25 = .ok (.if_icmp .ne 16, 3) := by decide +kernel
theorem dX12_isAnswered_28 : decode cX12_isAnswered 28 = .ok (.aload_n 0, 1) := by decide +kernel
theorem dX12_isAnswered_29 : decode cX12_isAnswered 29 = .ok (.aload_n 0, 1) := by decide +kernel
theorem dX12_isAnswered_30 : decode cX12_isAnswered 30 = .ok (.getfield 130, 3) := by decide +kernel
theorem dX12_isAnswered_33 : decode cX12_isAnswered 33 = .ok (.iload_n 1, 1) := by decide +kernel
theorem dX12_isAnswered_34 : decode cX12_isAnswered 34 = .ok (.iaload, 1) := by decide +kernel
theorem dX12_isAnswered_35 : decode cX12_isAnswered 35 = .ok (.invokevirtual 516, 3) := by decide +kernel
theorem dX12_isAnswered_38 : decode cX12_isAnswered 38 = .ok (.goto 4, 3) := by decide +kernel
theorem dX12_isAnswered_41 : decode cX12_isAnswered 41 = .ok (.iconst (-1), 1) := by decide +kernel
theorem dX12_isAnswered_42 : decode cX12_isAnswered 42 = .ok (.istore_n 2, 1) := by decide +kernel
theorem dX12_isAnswered_43 : decode cX12_isAnswered 43 = .ok (.iload_n 2, 1) := by decide +kernel
theorem dX12_isAnswered_44 : decode cX12_isAnswered 44 = .ok (.ifCond .ge 13, 3) := by decide +kernel
theorem dX12_isAnswered_47 : decode cX12_isAnswered 47 = .ok (.aload_n 0, 1) := by decide +kernel
theorem dX12_isAnswered_48 : decode cX12_isAnswered 48 = .ok (.iload_n 1, 1) := by decide +kernel
theorem dX12_isAnswered_49 : decode cX12_isAnswered 49 = .ok (.bipush 6, 2) := by decide +kernel
theorem dX12_isAnswered_51 : decode cX12_isAnswered 51 = .ok (.invokevirtual 572, 3) := by decide +kernel
theorem dX12_isAnswered_54 : decode cX12_isAnswered 54 = .ok (.goto 10, 3) := by decide +kernel
theorem dX12_isAnswered_57 : decode cX12_isAnswered 57 = .ok (.aload_n 0, 1) := by decide +kernel
theorem dX12_isAnswered_58 : decode cX12_isAnswered 58 = .ok (.getfield 130, 3) := by decide +kernel
theorem dX12_isAnswered_61 : decode cX12_isAnswered 61 = .ok (.iload_n 1, 1) := by decide +kernel
theorem dX12_isAnswered_62 : decode cX12_isAnswered 62 = .ok (.iload_n 2, 1) := by decide +kernel
theorem dX12_isAnswered_63 : decode cX12_isAnswered 63 = .ok (.iastore, 1) := by decide +kernel
theorem dX12_isAnswered_64 : decode cX12_isAnswered 64 = .ok (.iload_n 2, 1) := by decide +kernel
theorem dX12_isAnswered_65 : decode cX12_isAnswered 65 = .ok (.ifCond .lt 7, 3) := by decide +kernel
theorem dX12_isAnswered_68 : decode cX12_isAnswered 68 = .ok (.iconst 1, 1) := by decide +kernel
theorem dX12_isAnswered_69 : decode cX12_isAnswered 69 = .ok (.goto 4, 3) := by decide +kernel
theorem dX12_isAnswered_72 : decode cX12_isAnswered 72 = .ok (.iconst 0, 1) := by decide +kernel
theorem dX12_isAnswered_73 : decode cX12_isAnswered 73 = .ok (.ireturn, 1) := by decide +kernel
def B_M_isAnswered_64   (x2 : Int32) (σ : CS) : Option (Int32 × CS) := if x2 < 0 then some (0, σ) else some (1, σ)
set_option maxHeartbeats 4000000 in
set_option maxRecDepth 100000 in
theorem w_M_isAnswered_64 (C : Cx g p s m args meth c A 3 cX12_isAnswered yX12_isAnswered.cls) (hr : meth.sig.returnType = (some .boolean))  {res : Int32 × CS}   (x2 : Int32)  (σ : CS) (h : B_M_isAnswered_64 x2 σ = some res) : NMI g p l e s m args below meth c A 2 50 3 am Rr res σ [(2, .int x2)] 64 [] := by
  unfold B_M_isAnswered_64 at h
  refine nw_iload_n C dX12_isAnswered_64 rfl 0 rfl ?_
  refine nw_if_lt (tgt := 72) C dX12_isAnswered_65 (by decide) h (fun _ h => ?_) (fun _ h => ?_)
  · refine nw_iconst (v := 0) C dX12_isAnswered_72 (by decide) ?_
    exact nm_zret C hr (Or.inl rfl) dX12_isAnswered_73 h
  · refine nw_iconst (v := 1) C dX12_isAnswered_68 (by decide) ?_
    refine nw_goto (tgt := 73) C dX12_isAnswered_69 (by decide) ?_
    exact nm_zret C hr (Or.inr rfl) dX12_isAnswered_73 h
def B_M_isAnswered_42   (x1 : Int32) (z0 : Int32) (σ : CS) : Option (Int32 × CS) := if 0 ≤ z0 then gix x1 40 (B_M_isAnswered_64 z0 (wr σ 64 x1 z0)) else bnd (f_M_becomes x1 6 σ) (fun _ σ51 => B_M_isAnswered_64 z0 σ51)
set_option maxHeartbeats 4000000 in
set_option maxRecDepth 100000 in
theorem w_M_isAnswered_42 (C : Cx g p s m args meth c A 3 cX12_isAnswered yX12_isAnswered.cls) (hr : meth.sig.returnType = (some .boolean))  {res : Int32 × CS}   (x1 : Int32) (z0 : Int32)  (σ : CS) (h : B_M_isAnswered_42 x1 z0 σ = some res) : NMI g p l e s m args below meth c A 2 50 3 am Rr res σ [(0, .ref (am 112)), (1, .int x1)] 42 [.int z0] := by
  unfold B_M_isAnswered_42 at h
  refine nw_istore_n (lv' := [(2, .int z0), (0, .ref (am 112)), (1, .int x1)]) C dX12_isAnswered_42 rfl (by decide) rfl ?_
  refine nw_iload_n C dX12_isAnswered_43 rfl 0 rfl ?_
  refine nw_if_ge (tgt := 57) C dX12_isAnswered_44 (by decide) h (fun _ h => ?_) (fun _ h => ?_)
  · refine nw_aload_n C dX12_isAnswered_57 rfl 1 rfl ?_
    refine nw_get (v := .ref (am 64)) C in_X12 0 ml_O rfl 64 (by decide) tw_1637 rfl mf_64 dX12_isAnswered_58 ?_
    refine nw_iload_n C dX12_isAnswered_61 rfl 2 rfl ?_
    refine nw_iload_n C dX12_isAnswered_62 rfl 0 rfl ?_
    refine nw_iast C 39 ml_64 dX12_isAnswered_63 h ms_64 (fun h => ?_)
    exact nw_lv (lv' := [(2, .int z0)]) [0] rfl (w_M_isAnswered_64 C hr z0 _ h)
  · refine nw_aload_n C dX12_isAnswered_47 rfl 1 rfl ?_
    refine nw_iload_n C dX12_isAnswered_48 rfl 2 rfl ?_
    refine nw_bipush (v := 6) C dX12_isAnswered_49 (by decide) ?_
    refine nm_callVV (q0 := 0) (As := [.int x1, .int 6]) (rest := []) C h (fun _ _ e => c_M_becomes e) tw_2271 kv_X12_becomes ml_O rfl ⟨Nat.le_of_ble_eq_true rfl, Nat.le_of_ble_eq_true rfl⟩ rfl dX12_isAnswered_51 rfl (Nat.le_of_ble_eq_true rfl) (fun r51 σ51 h => ?_)
    refine nw_goto (tgt := 64) C dX12_isAnswered_54 (by decide) ?_
    exact nw_lv (lv' := [(2, .int z0)]) [0] rfl (w_M_isAnswered_64 C hr z0 _ h)
def f_M_isAnswered (p0 : Int32) (σ : CS) : Option (Int32 × CS) := gix p0 40 (bnd (f_M_isDead (rd σ 64 p0) σ) (fun r7 σ7 => if r7 = 0 then some (1, σ7) else bnd (f_M_ruleOf (σ7.1 1) 4 σ7) (fun r21 σ21 => if r21 = 1 then gix p0 40 (bnd (f_M_owes (rd σ21 64 p0) σ21) (fun r35 σ35 => B_M_isAnswered_42 p0 r35 σ35)) else B_M_isAnswered_42 p0 (-1) σ21)))
set_option maxHeartbeats 4000000 in
set_option maxRecDepth 100000 in
theorem c_M_isAnswered {l : Launch} {g : EG} {am : Nat → Nat} {Rr : va_W} {σ σ' : CS} {r : Int32} {p0 : Int32}  (h : f_M_isAnswered p0 σ = some (r, σ')) : CmI l g yX12_isAnswered (.code yX12_isAnswered cX12_isAnswered 3 (some .boolean)) 2 50 am Rr σ [.ref (am 112), .int p0] r σ' := by
  refine Ct.of rfl (by decide) (Nat.le_of_ble_eq_true rfl) ?_
  intro p e s m args below meth c A C hr
  show NMI g p l e s m args below meth c A 2 50 3 am Rr (r, σ') σ [(0, .ref (am 112)), (1, .int p0)] 0 []
  unfold f_M_isAnswered at h
  refine nw_aload_n C dX12_isAnswered_0 rfl 0 rfl ?_
  refine nw_aload_n C dX12_isAnswered_1 rfl 0 rfl ?_
  refine nw_get (v := .ref (am 64)) C in_X12 0 ml_O rfl 64 (by decide) tw_1637 rfl mf_64 dX12_isAnswered_2 ?_
  refine nw_iload_n C dX12_isAnswered_5 rfl 1 rfl ?_
  refine nw_iald C 39 ml_64 dX12_isAnswered_6 h (fun h => ?_)
  refine nm_callVI (q0 := 0) (As := [.int (rd σ 64 p0)]) (rest := []) C h (fun _ _ e => c_M_isDead e) tw_2180 kv_X12_isDead ml_O rfl ⟨Nat.le_of_ble_eq_true rfl, Nat.le_of_ble_eq_true rfl⟩ rfl dX12_isAnswered_7 rfl (Nat.le_of_ble_eq_true rfl) (fun r7 σ7 h => ?_)
  refine nw_if_ne (tgt := 15) C dX12_isAnswered_10 (by decide) h (fun _ h => ?_) (fun _ h => ?_)
  · refine nw_iconst (v := 1) C dX12_isAnswered_13 (by decide) ?_
    exact nm_zret C hr (Or.inr rfl) dX12_isAnswered_14 h
  · refine nw_aload_n C dX12_isAnswered_15 rfl 0 rfl ?_
    refine nw_aload_n C dX12_isAnswered_16 rfl 0 rfl ?_
    refine nw_get (v := .int (σ7.1 1)) C in_X12 0 ml_O rfl 1 (by decide) tw_1574 rfl mf_1 dX12_isAnswered_17 ?_
    refine nw_iconst (v := 4) C dX12_isAnswered_20 (by decide) ?_
    refine nm_callVI (q0 := 0) (As := [.int (σ7.1 1), .int 4]) (rest := []) C h (fun _ _ e => c_M_ruleOf e) tw_2159 kv_X12_ruleOf ml_O rfl ⟨Nat.le_of_ble_eq_true rfl, Nat.le_of_ble_eq_true rfl⟩ rfl dX12_isAnswered_21 rfl (Nat.le_of_ble_eq_true rfl) (fun r21 σ21 h => ?_)
    refine nw_iconst (v := 1) C dX12_isAnswered_24 (by decide) ?_
    refine nw_icmp_ne (tgt := 41) C dX12_isAnswered_25 (by decide) h (fun _ h => ?_) (fun _ h => ?_)
    · refine nw_aload_n C dX12_isAnswered_28 rfl 0 rfl ?_
      refine nw_aload_n C dX12_isAnswered_29 rfl 0 rfl ?_
      refine nw_get (v := .ref (am 64)) C in_X12 0 ml_O rfl 64 (by decide) tw_1637 rfl mf_64 dX12_isAnswered_30 ?_
      refine nw_iload_n C dX12_isAnswered_33 rfl 1 rfl ?_
      refine nw_iald C 39 ml_64 dX12_isAnswered_34 h (fun h => ?_)
      refine nm_callVI (q0 := 0) (As := [.int (rd σ21 64 p0)]) (rest := []) C h (fun _ _ e => c_M_owes e) tw_2188 kv_X12_owes ml_O rfl ⟨Nat.le_of_ble_eq_true rfl, Nat.le_of_ble_eq_true rfl⟩ rfl dX12_isAnswered_35 rfl (Nat.le_of_ble_eq_true rfl) (fun r35 σ35 h => ?_)
      refine nw_goto (tgt := 42) C dX12_isAnswered_38 (by decide) ?_
      exact nw_lv (lv' := [(0, .ref (am 112)), (1, .int p0)]) [0, 1] rfl (w_M_isAnswered_42 C hr p0 r35 _ h)
    · refine nw_iconst (v := (-1)) C dX12_isAnswered_41 (by decide) ?_
      exact nw_lv (lv' := [(0, .ref (am 112)), (1, .int p0)]) [0, 1] rfl (w_M_isAnswered_42 C hr p0 (-1) _ h)
theorem dX12_gains_0 : decode cX12_gains 0 = .ok (.aload_n 0, 1) := by decide +kernel
theorem dX12_gains_1 : decode cX12_gains 1 = .ok (.getfield 82, 3) := by decide +kernel
theorem dX12_gains_4 : decode cX12_gains 4 = .ok (.iload_n 1, 1) := by decide +kernel
theorem dX12_gains_5 : decode cX12_gains 5 = .ok (.aload_n 0, 1) := by decide +kernel
theorem dX12_gains_6 : decode cX12_gains 6 = .ok (.getfield 82, 3) := by decide +kernel
theorem dX12_gains_9 : decode cX12_gains 9 = .ok (.iload_n 1, 1) := by decide +kernel
theorem dX12_gains_10 : decode cX12_gains 10 = .ok (.iaload, 1) := by decide +kernel
theorem dX12_gains_11 : decode cX12_gains 11 = .ok (.iload_n 2, 1) := by decide +kernel
theorem dX12_gains_12 : decode cX12_gains 12 = .ok (.iadd, 1) := by decide +kernel
theorem dX12_gains_13 : decode cX12_gains 13 = .ok (.ldc_w 503, 3) := by decide +kernel
theorem dX12_gains_16 : decode cX12_gains 16 = .ok (.if_icmp .le 9, 3) := by decide +kernel
theorem dX12_gains_19 : decode cX12_gains 19 = .ok (.ldc_w 503, 3) := by decide +kernel
theorem dX12_gains_22 : decode cX12_gains 22 = .ok (.goto 11, 3) := by decide +kernel
theorem dX12_gains_25 : decode cX12_gains 25 = .ok (.aload_n 0, 1) := by decide +kernel
theorem dX12_gains_26 : decode cX12_gains 26 = .ok (.getfield 82, 3) := by decide +kernel
theorem dX12_gains_29 : decode cX12_gains 29 = .ok (.iload_n 1, 1) := by decide +kernel
theorem dX12_gains_30 : decode cX12_gains 30 = .ok (.iaload, 1) := by decide +kernel
theorem dX12_gains_31 : decode cX12_gains 31 = .ok (.iload_n 2, 1) := by decide +kernel
theorem dX12_gains_32 : decode cX12_gains 32 = .ok (.iadd, 1) := by decide +kernel
theorem dX12_gains_33 : decode cX12_gains 33 = .ok (.iastore, 1) := by decide +kernel
theorem dX12_gains_34 : decode cX12_gains 34 = .ok (.return_, 1) := by decide +kernel
def B_M_gains_33   (z1 : Int32) (z2 : Int32) (σ : CS) : Option (Int32 × CS) := gix z1 40 (some (0, (wr σ 41 z1 z2)))
set_option maxHeartbeats 4000000 in
set_option maxRecDepth 100000 in
theorem w_M_gains_33 (C : Cx g p s m args meth c A 3 cX12_gains yX12_gains.cls) (hr : meth.sig.returnType = none)  {res : Int32 × CS}   (z1 : Int32) (z2 : Int32)  (σ : CS) (h : B_M_gains_33 z1 z2 σ = some res) : NMV g p l e s m args below meth c A 0 0 3 am Rr res σ [] 33 [.int z2, .int z1, .ref (am 41)] := by
  unfold B_M_gains_33 at h
  refine nw_iast C 23 ml_41 dX12_gains_33 h ms_41 (fun h => ?_)
  exact nm_vret C hr dX12_gains_34 h
def f_M_gains (p0 : Int32) (p1 : Int32) (σ : CS) : Option (Int32 × CS) := gix p0 40 (if ((rd σ 41 p0) + p1) ≤ 1000000 then gix p0 40 (B_M_gains_33 p0 ((rd σ 41 p0) + p1) σ) else B_M_gains_33 p0 1000000 σ)
set_option maxHeartbeats 4000000 in
set_option maxRecDepth 100000 in
theorem c_M_gains {l : Launch} {g : EG} {am : Nat → Nat} {Rr : va_W} {σ σ' : CS} {r : Int32} {p0 : Int32} {p1 : Int32}  (h : f_M_gains p0 p1 σ = some (r, σ')) : CmV l g yX12_gains (.code yX12_gains cX12_gains 3 none) 0 0 am Rr σ [.ref (am 112), .int p0, .int p1] r σ' := by
  refine Ct.of rfl (by decide) (Nat.le_of_ble_eq_true rfl) ?_
  intro p e s m args below meth c A C hr
  show NMV g p l e s m args below meth c A 0 0 3 am Rr (r, σ') σ [(0, .ref (am 112)), (1, .int p0), (2, .int p1)] 0 []
  unfold f_M_gains at h
  refine nw_aload_n C dX12_gains_0 rfl 0 rfl ?_
  refine nw_get (v := .ref (am 41)) C in_X12 0 ml_O rfl 41 (by decide) tw_1614 rfl mf_41 dX12_gains_1 ?_
  refine nw_iload_n C dX12_gains_4 rfl 1 rfl ?_
  refine nw_aload_n C dX12_gains_5 rfl 0 rfl ?_
  refine nw_get (v := .ref (am 41)) C in_X12 0 ml_O rfl 41 (by decide) tw_1614 rfl mf_41 dX12_gains_6 ?_
  refine nw_iload_n C dX12_gains_9 rfl 1 rfl ?_
  refine nw_iald C 23 ml_41 dX12_gains_10 h (fun h => ?_)
  refine nw_iload_n C dX12_gains_11 rfl 2 rfl ?_
  refine nw_iadd C dX12_gains_12 ?_
  refine nw_ldcw (v := 1000000) C tw_2167 dX12_gains_13 ?_
  refine nw_icmp_le (tgt := 25) C dX12_gains_16 (by decide) h (fun _ h => ?_) (fun _ h => ?_)
  · refine nw_aload_n C dX12_gains_25 rfl 0 rfl ?_
    refine nw_get (v := .ref (am 41)) C in_X12 0 ml_O rfl 41 (by decide) tw_1614 rfl mf_41 dX12_gains_26 ?_
    refine nw_iload_n C dX12_gains_29 rfl 1 rfl ?_
    refine nw_iald C 23 ml_41 dX12_gains_30 h (fun h => ?_)
    refine nw_iload_n C dX12_gains_31 rfl 2 rfl ?_
    refine nw_iadd C dX12_gains_32 ?_
    exact nw_lv (lv' := []) [] rfl (w_M_gains_33 C hr p0 ((rd σ 41 p0) + p1) _ h)
  · refine nw_ldcw (v := 1000000) C tw_2167 dX12_gains_19 ?_
    refine nw_goto (tgt := 33) C dX12_gains_22 (by decide) ?_
    exact nw_lv (lv' := []) [] rfl (w_M_gains_33 C hr p0 1000000 _ h)
theorem dX12_pays_0 : decode cX12_pays 0 = .ok (.iload_n 2, 1) := by decide +kernel
theorem dX12_pays_1 : decode cX12_pays 1 = .ok (.ifCond .ge 4, 3) := by decide +kernel
theorem dX12_pays_4 : decode cX12_pays 4 = .ok (.return_, 1) := by decide +kernel
theorem dX12_pays_5 : decode cX12_pays 5 = .ok (.aload_n 0, 1) := by decide +kernel
theorem dX12_pays_6 : decode cX12_pays 6 = .ok (.getfield 82, 3) := by decide +kernel
theorem dX12_pays_9 : decode cX12_pays 9 = .ok (.iload_n 2, 1) := by decide +kernel
theorem dX12_pays_10 : decode cX12_pays 10 = .ok (.iaload, 1) := by decide +kernel
theorem dX12_pays_11 : decode cX12_pays 11 = .ok (.iload 4, 2) := by decide +kernel
theorem dX12_pays_13 : decode cX12_pays 13 = .ok (.if_icmp .ge 12, 3) := by decide +kernel
theorem dX12_pays_16 : decode cX12_pays 16 = .ok (.aload_n 0, 1) := by decide +kernel
theorem dX12_pays_17 : decode cX12_pays 17 = .ok (.getfield 82, 3) := by decide +kernel
theorem dX12_pays_20 : decode cX12_pays 20 = .ok (.iload_n 2, 1) := by decide +kernel
theorem dX12_pays_21 : decode cX12_pays 21 = .ok (.iaload, 1) := by decide +kernel
theorem dX12_pays_22 : decode cX12_pays 22 = .ok (.goto 5, 3) := by decide +kernel
theorem dX12_pays_25 : decode cX12_pays 25 = .ok (.iload 4, 2) := by decide +kernel
theorem dX12_pays_27 : decode cX12_pays 27 = .ok (.istore 5, 2) := by decide +kernel
theorem dX12_pays_29 : decode cX12_pays 29 = .ok (.aload_n 0, 1) := by decide +kernel
theorem dX12_pays_30 : decode cX12_pays 30 = .ok (.getfield 124, 3) := by decide +kernel
theorem dX12_pays_33 : decode cX12_pays 33 = .ok (.iload_n 1, 1) := by decide +kernel
theorem dX12_pays_34 : decode cX12_pays 34 = .ok (.iaload, 1) := by decide +kernel
theorem dX12_pays_35 : decode cX12_pays 35 = .ok (.istore 6, 2) := by decide +kernel
theorem dX12_pays_37 : decode cX12_pays 37 = .ok (.aload_n 0, 1) := by decide +kernel
theorem dX12_pays_38 : decode cX12_pays 38 = .ok (.aload_n 0, 1) := by decide +kernel
theorem dX12_pays_39 : decode cX12_pays 39 = .ok (.getfield 91, 3) := by decide +kernel
theorem dX12_pays_42 : decode cX12_pays 42 = .ok (.iload 6, 2) := by decide +kernel
theorem dX12_pays_44 : decode cX12_pays 44 = .ok (.iaload, 1) := by decide +kernel
theorem dX12_pays_45 : decode cX12_pays 45 = .ok (.invokevirtual 510, 3) := by decide +kernel
theorem dX12_pays_48 : decode cX12_pays 48 = .ok (.ifCond .eq 7, 3) := by decide +kernel
theorem dX12_pays_51 : decode cX12_pays 51 = .ok (.iconst 0, 1) := by decide +kernel
theorem dX12_pays_52 : decode cX12_pays 52 = .ok (.goto 16, 3) := by decide +kernel
theorem dX12_pays_55 : decode cX12_pays 55 = .ok (.iload 5, 2) := by decide +kernel
theorem dX12_pays_57 : decode cX12_pays 57 = .ok (.aload_n 0, 1) := by decide +kernel
theorem dX12_pays_58 : decode cX12_pays 58 = .ok (.getfield 97, 3) := by decide +kernel
theorem dX12_pays_61 : decode cX12_pays 61 = .ok (.iload 6, 2) := by decide +kernel
theorem dX12_pays_63 : decode cX12_pays 63 = .ok (.iaload, 1) := by decide +kernel
theorem dX12_pays_64 : decode cX12_pays 64 = .ok (.imul, 1) := by decide +kernel
theorem dX12_pays_65 : decode cX12_pays 65 = .ok (.bipush 100, 2) := by decide +kernel
theorem dX12_pays_67 : decode cX12_pays 67 = .ok (.idiv, 1) := by decide +kernel
theorem dX12_pays_68 : decode cX12_pays 68 = .ok (.istore 7, 2) := by decide +kernel
theorem dX12_pays_70 : decode cX12_pays 70 = .ok (.aload_n 0, 1) := by decide +kernel
theorem dX12_pays_71 : decode cX12_pays 71 = .ok (.getfield 82, 3) := by decide +kernel
theorem dX12_pays_74 : decode cX12_pays 74 = .ok (.iload_n 2, 1) := by decide +kernel
theorem dX12_pays_75 : decode cX12_pays 75 = .ok (.dup2, 1) := by decide +kernel
theorem dX12_pays_76 : decode cX12_pays 76 = .ok (.iaload, 1) := by decide +kernel
theorem dX12_pays_77 : decode cX12_pays 77 = .ok (.iload 5, 2) := by decide +kernel
theorem dX12_pays_79 : decode cX12_pays 79 = .ok (.isub, 1) := by decide +kernel
theorem dX12_pays_80 : decode cX12_pays 80 = .ok (.iastore, 1) := by decide +kernel
theorem dX12_pays_81 : decode cX12_pays 81 = .ok (.aload_n 0, 1) := by decide +kernel
theorem dX12_pays_82 : decode cX12_pays 82 = .ok (.getfield 142, 3) := by decide +kernel
theorem dX12_pays_85 : decode cX12_pays 85 = .ok (.iload_n 1, 1) := by decide +kernel
theorem dX12_pays_86 : decode cX12_pays 86 = .ok (.dup2, 1) := by decide +kernel
theorem dX12_pays_87 : decode cX12_pays 87 = .ok (.iaload, 1) := by decide +kernel
theorem dX12_pays_88 : decode cX12_pays 88 = .ok (.iload 5, 2) := by decide +kernel
theorem dX12_pays_90 : decode cX12_pays 90 = .ok (.isub, 1) := by decide +kernel
theorem dX12_pays_91 : decode cX12_pays 91 = .ok (.iastore, 1) := by decide +kernel
theorem dX12_pays_92 : decode cX12_pays 92 = .ok (.aload_n 0, 1) := by decide +kernel
theorem dX12_pays_93 : decode cX12_pays 93 = .ok (.getfield 145, 3) := by decide +kernel
theorem dX12_pays_96 : decode cX12_pays 96 = .ok (.iconst 3, 1) := by decide +kernel
theorem dX12_pays_97 : decode cX12_pays 97 = .ok (.iload_n 1, 1) := by decide +kernel
theorem dX12_pays_98 : decode cX12_pays 98 = .ok (.imul, 1) := by decide +kernel
theorem dX12_pays_99 : decode cX12_pays 99 = .ok (.iload_n 3, 1) := by decide +kernel
theorem dX12_pays_100 : decode cX12_pays 100 = .ok (.iadd, 1) := by decide +kernel
theorem dX12_pays_101 : decode cX12_pays 101 = .ok (.dup2, 1) := by decide +kernel
theorem dX12_pays_102 : decode cX12_pays 102 = .ok (.iaload, 1) := by decide +kernel
theorem dX12_pays_103 : decode cX12_pays 103 = .ok (.iload 5, 2) := by decide +kernel
theorem dX12_pays_105 : decode cX12_pays 105 = .ok (.iadd, 1) := by decide +kernel
theorem dX12_pays_106 : decode cX12_pays 106 = .ok (.iastore, 1) := by decide +kernel
theorem dX12_pays_107 : decode cX12_pays 107 = .ok (.aload_n 0, 1) := by decide +kernel
theorem dX12_pays_108 : decode cX12_pays 108 = .ok (.getfield 148, 3) := by decide +kernel
theorem dX12_pays_111 : decode cX12_pays 111 = .ok (.iload_n 1, 1) := by decide +kernel
theorem dX12_pays_112 : decode cX12_pays 112 = .ok (.dup2, 1) := by decide +kernel
theorem dX12_pays_113 : decode cX12_pays 113 = .ok (.iaload, 1) := by decide +kernel
theorem dX12_pays_114 : decode cX12_pays 114 = .ok (.iload 7, 2) := by decide +kernel
theorem dX12_pays_116 : decode cX12_pays 116 = .ok (.iadd, 1) := by decide +kernel
theorem dX12_pays_117 : decode cX12_pays 117 = .ok (.iastore, 1) := by decide +kernel
theorem dX12_pays_118 : decode cX12_pays 118 = .ok (.aload_n 0, 1) := by decide +kernel
theorem dX12_pays_119 : decode cX12_pays 119 = .ok (.aload_n 0, 1) := by decide +kernel
theorem dX12_pays_120 : decode cX12_pays 120 = .ok (.getfield 91, 3) := by decide +kernel
theorem dX12_pays_123 : decode cX12_pays 123 = .ok (.iload 6, 2) := by decide +kernel
theorem dX12_pays_125 : decode cX12_pays 125 = .ok (.iaload, 1) := by decide +kernel
theorem dX12_pays_126 : decode cX12_pays 126 = .ok (.iload 7, 2) := by decide +kernel
theorem dX12_pays_128 : decode cX12_pays 128 = .ok (.invokevirtual 575, 3) := by decide +kernel
theorem dX12_pays_131 : decode cX12_pays 131 = .ok (.aload_n 0, 1) := by decide +kernel
theorem dX12_pays_132 : decode cX12_pays 132 = .ok (.dup, 1) := by decide +kernel
theorem dX12_pays_133 : decode cX12_pays 133 = .ok (.getfield 578, 3) := by decide +kernel
theorem dX12_pays_136 : decode cX12_pays 136 = .ok (.iload 5, 2) := by decide +kernel
theorem dX12_pays_138 : decode cX12_pays 138 = .ok (.iload 7, 2) := by decide +kernel
theorem dX12_pays_140 : decode cX12_pays 140 = .ok (.isub, 1) := by decide +kernel
theorem dX12_pays_141 : decode cX12_pays 141 = .ok (.iadd, 1) := by decide +kernel
theorem dX12_pays_142 : decode cX12_pays 142 = .ok (.putfield 578, 3) := by decide +kernel
theorem dX12_pays_145 : decode cX12_pays 145 = .ok (.return_, 1) := by decide +kernel
def B_M_pays_68   (x1 : Int32) (x2 : Int32) (x3 : Int32) (x5 : Int32) (x6 : Int32) (z0 : Int32) (σ : CS) : Option (Int32 × CS) := gix x2 40 (gix x2 40 (gix x1 40 (gix x1 40 (gix ((3 * x1) + x3) 120 (gix ((3 * x1) + x3) 120 (gix x1 40 (gix x1 40 (gix x6 6 (bnd (f_M_gains (rd σ 45 x6) z0 (wr (wr (wr (wr σ 41 x2 ((rd σ 41 x2) - x5)) 68 x1 ((rd σ 68 x1) - x5)) 69 ((3 * x1) + x3) ((rd σ 69 ((3 * x1) + x3)) + x5)) 70 x1 ((rd σ 70 x1) + z0))) (fun _ σ128 => some (0, (sF σ128 39 ((σ128.1 39) + (x5 - z0))))))))))))))
set_option maxHeartbeats 4000000 in
set_option maxRecDepth 100000 in
theorem w_M_pays_68 (C : Cx g p s m args meth c A 8 cX12_pays yX12_pays.cls) (hr : meth.sig.returnType = none)  {res : Int32 × CS}   (x1 : Int32) (x2 : Int32) (x3 : Int32) (x5 : Int32) (x6 : Int32) (z0 : Int32)  (σ : CS) (h : B_M_pays_68 x1 x2 x3 x5 x6 z0 σ = some res) : NMV g p l e s m args below meth c A 1 22 8 am Rr res σ [(0, .ref (am 112)), (1, .int x1), (2, .int x2), (3, .int x3), (5, .int x5), (6, .int x6)] 68 [.int z0] := by
  unfold B_M_pays_68 at h
  refine nw_istore (lv' := [(7, .int z0), (0, .ref (am 112)), (1, .int x1), (2, .int x2), (3, .int x3), (5, .int x5), (6, .int x6)]) C dX12_pays_68 (by decide) rfl ?_
  refine nw_aload_n C dX12_pays_70 rfl 1 rfl ?_
  refine nw_get (v := .ref (am 41)) C in_X12 0 ml_O rfl 41 (by decide) tw_1614 rfl mf_41 dX12_pays_71 ?_
  refine nw_iload_n C dX12_pays_74 rfl 3 rfl ?_
  refine nw_dup2 C dX12_pays_75 rfl rfl ?_
  refine nw_iald C 23 ml_41 dX12_pays_76 h (fun h => ?_)
  refine nw_iload C dX12_pays_77 5 rfl ?_
  refine nw_isub C dX12_pays_79 ?_
  refine nw_iast C 23 ml_41 dX12_pays_80 h ms_41 (fun h => ?_)
  refine nw_aload_n C dX12_pays_81 rfl 1 rfl ?_
  refine nw_get (v := .ref (am 68)) C in_X12 0 ml_O rfl 68 (by decide) tw_1641 rfl mf_68 dX12_pays_82 ?_
  refine nw_iload_n C dX12_pays_85 rfl 2 rfl ?_
  refine nw_dup2 C dX12_pays_86 rfl rfl ?_
  refine nw_iald C 43 ml_68 dX12_pays_87 h (fun h => ?_)
  refine nw_st (st' := [.int (rd σ 68 x1), .int x1, .ref (am 68)]) rfl ?_
  refine nw_iload C dX12_pays_88 5 rfl ?_
  refine nw_isub C dX12_pays_90 ?_
  refine nw_iast C 43 ml_68 dX12_pays_91 h ms_68 (fun h => ?_)
  refine nw_aload_n C dX12_pays_92 rfl 1 rfl ?_
  refine nw_get (v := .ref (am 69)) C in_X12 0 ml_O rfl 69 (by decide) tw_1642 rfl mf_69 dX12_pays_93 ?_
  refine nw_iconst (v := 3) C dX12_pays_96 (by decide) ?_
  refine nw_iload_n C dX12_pays_97 rfl 2 rfl ?_
  refine nw_imul C dX12_pays_98 ?_
  refine nw_iload_n C dX12_pays_99 rfl 4 rfl ?_
  refine nw_iadd C dX12_pays_100 ?_
  refine nw_dup2 C dX12_pays_101 rfl rfl ?_
  refine nw_iald C 44 ml_69 dX12_pays_102 h (fun h => ?_)
  refine nw_st (st' := [.int (rd σ 69 ((3 * x1) + x3)), .int ((3 * x1) + x3), .ref (am 69)]) rfl ?_
  refine nw_iload C dX12_pays_103 5 rfl ?_
  refine nw_iadd C dX12_pays_105 ?_
  refine nw_iast C 44 ml_69 dX12_pays_106 h ms_69 (fun h => ?_)
  refine nw_aload_n C dX12_pays_107 rfl 1 rfl ?_
  refine nw_get (v := .ref (am 70)) C in_X12 0 ml_O rfl 70 (by decide) tw_1643 rfl mf_70 dX12_pays_108 ?_
  refine nw_iload_n C dX12_pays_111 rfl 2 rfl ?_
  refine nw_dup2 C dX12_pays_112 rfl rfl ?_
  refine nw_iald C 45 ml_70 dX12_pays_113 h (fun h => ?_)
  refine nw_st (st' := [.int (rd σ 70 x1), .int x1, .ref (am 70)]) rfl ?_
  refine nw_iload C dX12_pays_114 0 rfl ?_
  refine nw_iadd C dX12_pays_116 ?_
  refine nw_iast C 45 ml_70 dX12_pays_117 h ms_70 (fun h => ?_)
  refine nw_aload_n C dX12_pays_118 rfl 1 rfl ?_
  refine nw_aload_n C dX12_pays_119 rfl 1 rfl ?_
  refine nw_get (v := .ref (am 45)) C in_X12 0 ml_O rfl 45 (by decide) tw_1618 rfl mf_45 dX12_pays_120 ?_
  refine nw_iload C dX12_pays_123 6 rfl ?_
  refine nw_iald C 26 ml_45 dX12_pays_125 h (fun h => ?_)
  refine nw_st (st' := [.int (rd σ 45 x6), .ref (am 112)]) rfl ?_
  refine nw_iload C dX12_pays_126 0 rfl ?_
  refine nm_callVV (q0 := 0) (As := [.int (rd σ 45 x6), .int z0]) (rest := []) C h (fun _ _ e => c_M_gains e) tw_2283 kv_X12_gains ml_O rfl ⟨Nat.le_of_ble_eq_true rfl, Nat.le_of_ble_eq_true rfl⟩ rfl dX12_pays_128 rfl (Nat.le_of_ble_eq_true rfl) (fun r128 σ128 h => ?_)
  refine nw_aload_n C dX12_pays_131 rfl 1 rfl ?_
  refine nw_dup C dX12_pays_132 rfl ?_
  refine nw_get (v := .int (σ128.1 39)) C in_X12 0 ml_O rfl 39 (by decide) tw_1612 rfl mf_39 dX12_pays_133 ?_
  refine nw_iload C dX12_pays_136 5 rfl ?_
  refine nw_iload C dX12_pays_138 0 rfl ?_
  refine nw_isub C dX12_pays_140 ?_
  refine nw_iadd C dX12_pays_141 ?_
  refine nw_put (ty := .int) C in_X12 0 ml_O rfl 39 (by decide) tyX12 tyX12_ok nmX12 tw_1612 rfl rfl (by decide +kernel) rfl rfl (Nat.le_of_ble_eq_true rfl) dX12_pays_142 ms_39 ?_
  exact nm_vret C hr dX12_pays_145 h
def B_M_pays_27   (x1 : Int32) (x2 : Int32) (x3 : Int32) (z0 : Int32) (σ : CS) : Option (Int32 × CS) := gix x1 40 (gix (rd σ 62 x1) 6 (bnd (f_M_isDead (rd σ 45 (rd σ 62 x1)) σ) (fun r45 σ45 => if r45 = 0 then gix (rd σ 62 x1) 6 (B_M_pays_68 x1 x2 x3 z0 (rd σ 62 x1) ((z0 * (rd σ45 47 (rd σ 62 x1))) / 100) σ45) else B_M_pays_68 x1 x2 x3 z0 (rd σ 62 x1) 0 σ45)))
set_option maxHeartbeats 4000000 in
set_option maxRecDepth 100000 in
theorem w_M_pays_27 (C : Cx g p s m args meth c A 8 cX12_pays yX12_pays.cls) (hr : meth.sig.returnType = none)  {res : Int32 × CS}   (x1 : Int32) (x2 : Int32) (x3 : Int32) (z0 : Int32)  (σ : CS) (h : B_M_pays_27 x1 x2 x3 z0 σ = some res) : NMV g p l e s m args below meth c A 1 22 8 am Rr res σ [(0, .ref (am 112)), (1, .int x1), (2, .int x2), (3, .int x3)] 27 [.int z0] := by
  unfold B_M_pays_27 at h
  refine nw_istore (lv' := [(5, .int z0), (0, .ref (am 112)), (1, .int x1), (2, .int x2), (3, .int x3)]) C dX12_pays_27 (by decide) rfl ?_
  refine nw_aload_n C dX12_pays_29 rfl 1 rfl ?_
  refine nw_get (v := .ref (am 62)) C in_X12 0 ml_O rfl 62 (by decide) tw_1635 rfl mf_62 dX12_pays_30 ?_
  refine nw_iload_n C dX12_pays_33 rfl 2 rfl ?_
  refine nw_iald C 37 ml_62 dX12_pays_34 h (fun h => ?_)
  refine nw_istore (lv' := [(6, .int (rd σ 62 x1)), (5, .int z0), (0, .ref (am 112)), (1, .int x1), (2, .int x2), (3, .int x3)]) C dX12_pays_35 (by decide) rfl ?_
  refine nw_aload_n C dX12_pays_37 rfl 2 rfl ?_
  refine nw_aload_n C dX12_pays_38 rfl 2 rfl ?_
  refine nw_get (v := .ref (am 45)) C in_X12 0 ml_O rfl 45 (by decide) tw_1618 rfl mf_45 dX12_pays_39 ?_
  refine nw_iload C dX12_pays_42 0 rfl ?_
  refine nw_iald C 26 ml_45 dX12_pays_44 h (fun h => ?_)
  refine nm_callVI (q0 := 0) (As := [.int (rd σ 45 (rd σ 62 x1))]) (rest := []) C h (fun _ _ e => c_M_isDead e) tw_2180 kv_X12_isDead ml_O rfl ⟨Nat.le_of_ble_eq_true rfl, Nat.le_of_ble_eq_true rfl⟩ rfl dX12_pays_45 rfl (Nat.le_of_ble_eq_true rfl) (fun r45 σ45 h => ?_)
  refine nw_if_eq (tgt := 55) C dX12_pays_48 (by decide) h (fun _ h => ?_) (fun _ h => ?_)
  · refine nw_iload C dX12_pays_55 1 rfl ?_
    refine nw_aload_n C dX12_pays_57 rfl 2 rfl ?_
    refine nw_get (v := .ref (am 47)) C in_X12 0 ml_O rfl 47 (by decide) tw_1620 rfl mf_47 dX12_pays_58 ?_
    refine nw_iload C dX12_pays_61 0 rfl ?_
    refine nw_iald C 28 ml_47 dX12_pays_63 h (fun h => ?_)
    refine nw_imul C dX12_pays_64 ?_
    refine nw_bipush (v := 100) C dX12_pays_65 (by decide) ?_
    refine nw_idivk C dX12_pays_67 (by decide) ?_
    exact nw_lv (lv' := [(0, .ref (am 112)), (1, .int x1), (2, .int x2), (3, .int x3), (5, .int z0), (6, .int (rd σ 62 x1))]) [2, 3, 4, 5, 1, 0] rfl (w_M_pays_68 C hr x1 x2 x3 z0 (rd σ 62 x1) ((z0 * (rd σ45 47 (rd σ 62 x1))) / 100) _ h)
  · refine nw_iconst (v := 0) C dX12_pays_51 (by decide) ?_
    refine nw_goto (tgt := 68) C dX12_pays_52 (by decide) ?_
    exact nw_lv (lv' := [(0, .ref (am 112)), (1, .int x1), (2, .int x2), (3, .int x3), (5, .int z0), (6, .int (rd σ 62 x1))]) [2, 3, 4, 5, 1, 0] rfl (w_M_pays_68 C hr x1 x2 x3 z0 (rd σ 62 x1) 0 _ h)
def f_M_pays (p0 : Int32) (p1 : Int32) (p2 : Int32) (p3 : Int32) (σ : CS) : Option (Int32 × CS) := if 0 ≤ p1 then gix p1 40 (if p3 ≤ (rd σ 41 p1) then B_M_pays_27 p0 p1 p2 p3 σ else gix p1 40 (B_M_pays_27 p0 p1 p2 (rd σ 41 p1) σ)) else some (0, σ)
set_option maxHeartbeats 4000000 in
set_option maxRecDepth 100000 in
theorem c_M_pays {l : Launch} {g : EG} {am : Nat → Nat} {Rr : va_W} {σ σ' : CS} {r : Int32} {p0 : Int32} {p1 : Int32} {p2 : Int32} {p3 : Int32}  (h : f_M_pays p0 p1 p2 p3 σ = some (r, σ')) : CmV l g yX12_pays (.code yX12_pays cX12_pays 8 none) 1 22 am Rr σ [.ref (am 112), .int p0, .int p1, .int p2, .int p3] r σ' := by
  refine Ct.of rfl (by decide) (Nat.le_of_ble_eq_true rfl) ?_
  intro p e s m args below meth c A C hr
  show NMV g p l e s m args below meth c A 1 22 8 am Rr (r, σ') σ [(0, .ref (am 112)), (1, .int p0), (2, .int p1), (3, .int p2), (4, .int p3)] 0 []
  unfold f_M_pays at h
  refine nw_iload_n C dX12_pays_0 rfl 2 rfl ?_
  refine nw_if_ge (tgt := 5) C dX12_pays_1 (by decide) h (fun _ h => ?_) (fun _ h => ?_)
  · refine nw_aload_n C dX12_pays_5 rfl 0 rfl ?_
    refine nw_get (v := .ref (am 41)) C in_X12 0 ml_O rfl 41 (by decide) tw_1614 rfl mf_41 dX12_pays_6 ?_
    refine nw_iload_n C dX12_pays_9 rfl 2 rfl ?_
    refine nw_iald C 23 ml_41 dX12_pays_10 h (fun h => ?_)
    refine nw_iload C dX12_pays_11 4 rfl ?_
    refine nw_icmp_ge (tgt := 25) C dX12_pays_13 (by decide) h (fun _ h => ?_) (fun _ h => ?_)
    · refine nw_iload C dX12_pays_25 4 rfl ?_
      exact nw_lv (lv' := [(0, .ref (am 112)), (1, .int p0), (2, .int p1), (3, .int p2)]) [0, 1, 2, 3] rfl (w_M_pays_27 C hr p0 p1 p2 p3 _ h)
    · refine nw_aload_n C dX12_pays_16 rfl 0 rfl ?_
      refine nw_get (v := .ref (am 41)) C in_X12 0 ml_O rfl 41 (by decide) tw_1614 rfl mf_41 dX12_pays_17 ?_
      refine nw_iload_n C dX12_pays_20 rfl 2 rfl ?_
      refine nw_iald C 23 ml_41 dX12_pays_21 h (fun h => ?_)
      refine nw_goto (tgt := 27) C dX12_pays_22 (by decide) ?_
      exact nw_lv (lv' := [(0, .ref (am 112)), (1, .int p0), (2, .int p1), (3, .int p2)]) [0, 1, 2, 3] rfl (w_M_pays_27 C hr p0 p1 p2 (rd σ 41 p1) _ h)
  · exact nm_vret C hr dX12_pays_4 h
theorem dX12_payer_0 : decode cX12_payer 0 = .ok (.aload_n 0, 1) := by decide +kernel
theorem dX12_payer_1 : decode cX12_payer 1 = .ok (.iload_n 1, 1) := by decide +kernel
theorem dX12_payer_2 : decode cX12_payer 2 = .ok (.invokevirtual 510, 3) := by decide +kernel
theorem dX12_payer_5 : decode cX12_payer 5 = .ok (.ifCond .eq 11, 3) := by decide +kernel
theorem dX12_payer_8 : decode cX12_payer 8 = .ok (.aload_n 0, 1) := by decide +kernel
theorem dX12_payer_9 : decode cX12_payer 9 = .ok (.iload_n 1, 1) := by decide +kernel
theorem dX12_payer_10 : decode cX12_payer 10 = .ok (.invokevirtual 516, 3) := by decide +kernel
theorem dX12_payer_13 : decode cX12_payer 13 = .ok (.goto 4, 3) := by decide +kernel
theorem dX12_payer_16 : decode cX12_payer 16 = .ok (.iload_n 1, 1) := by decide +kernel
theorem dX12_payer_17 : decode cX12_payer 17 = .ok (.ireturn, 1) := by decide +kernel
def f_M_payer (p0 : Int32) (σ : CS) : Option (Int32 × CS) := bnd (f_M_isDead p0 σ) (fun r2 σ2 => if r2 = 0 then some (p0, σ2) else bnd (f_M_owes p0 σ2) (fun r10 σ10 => some (r10, σ10)))
set_option maxHeartbeats 4000000 in
set_option maxRecDepth 100000 in
theorem c_M_payer {l : Launch} {g : EG} {am : Nat → Nat} {Rr : va_W} {σ σ' : CS} {r : Int32} {p0 : Int32}  (h : f_M_payer p0 σ = some (r, σ')) : CmI l g yX12_payer (.code yX12_payer cX12_payer 2 (some .int)) 2 44 am Rr σ [.ref (am 112), .int p0] r σ' := by
  refine Ct.of rfl (by decide) (Nat.le_of_ble_eq_true rfl) ?_
  intro p e s m args below meth c A C hr
  show NMI g p l e s m args below meth c A 2 44 2 am Rr (r, σ') σ [(0, .ref (am 112)), (1, .int p0)] 0 []
  unfold f_M_payer at h
  refine nw_aload_n C dX12_payer_0 rfl 0 rfl ?_
  refine nw_iload_n C dX12_payer_1 rfl 1 rfl ?_
  refine nm_callVI (q0 := 0) (As := [.int p0]) (rest := []) C h (fun _ _ e => c_M_isDead e) tw_2180 kv_X12_isDead ml_O rfl ⟨Nat.le_of_ble_eq_true rfl, Nat.le_of_ble_eq_true rfl⟩ rfl dX12_payer_2 rfl (Nat.le_of_ble_eq_true rfl) (fun r2 σ2 h => ?_)
  refine nw_if_eq (tgt := 16) C dX12_payer_5 (by decide) h (fun _ h => ?_) (fun _ h => ?_)
  · refine nw_iload_n C dX12_payer_16 rfl 1 rfl ?_
    exact nm_iret C hr dX12_payer_17 h
  · refine nw_aload_n C dX12_payer_8 rfl 0 rfl ?_
    refine nw_iload_n C dX12_payer_9 rfl 1 rfl ?_
    refine nm_callVI (q0 := 0) (As := [.int p0]) (rest := []) C h (fun _ _ e => c_M_owes e) tw_2188 kv_X12_owes ml_O rfl ⟨Nat.le_of_ble_eq_true rfl, Nat.le_of_ble_eq_true rfl⟩ rfl dX12_payer_10 rfl (Nat.le_of_ble_eq_true rfl) (fun r10 σ10 h => ?_)
    refine nw_goto (tgt := 17) C dX12_payer_13 (by decide) ?_
    exact nm_iret C hr dX12_payer_17 h
theorem dX12_asks_0 : decode cX12_asks 0 = .ok (.aload_n 0, 1) := by decide +kernel
theorem dX12_asks_1 : decode cX12_asks 1 = .ok (.getfield 133, 3) := by decide +kernel
theorem dX12_asks_4 : decode cX12_asks 4 = .ok (.iload_n 1, 1) := by decide +kernel
theorem dX12_asks_5 : decode cX12_asks 5 = .ok (.iaload, 1) := by decide +kernel
theorem dX12_asks_6 : decode cX12_asks 6 = .ok (.iconst 2, 1) := by decide +kernel
theorem dX12_asks_7 : decode cX12_asks 7 = .ok (.if_icmp .ne 23, 3) := by decide +kernel
theorem dX12_asks_10 : decode cX12_asks 10 = .ok (.aload_n 0, 1) := by decide +kernel
theorem dX12_asks_11 : decode cX12_asks 11 = .ok (.aload_n 0, 1) := by decide +kernel
theorem dX12_asks_12 : decode cX12_asks 12 = .ok (.getfield 121, 3) := by decide +kernel
theorem dX12_asks_15 : decode cX12_asks 15 = .ok (.iload_n 1, 1) := by decide +kernel
theorem dX12_asks_16 : decode cX12_asks 16 = .ok (.iaload, 1) := by decide +kernel
theorem dX12_asks_17 : decode cX12_asks 17 = .ok (.invokevirtual 551, 3) := by decide +kernel
theorem dX12_asks_20 : decode cX12_asks 20 = .ok (.aload_n 0, 1) := by decide +kernel
theorem dX12_asks_21 : decode cX12_asks 21 = .ok (.getfield 142, 3) := by decide +kernel
theorem dX12_asks_24 : decode cX12_asks 24 = .ok (.iload_n 1, 1) := by decide +kernel
theorem dX12_asks_25 : decode cX12_asks 25 = .ok (.aload_n 0, 1) := by decide +kernel
theorem dX12_asks_26 : decode cX12_asks 26 = .ok (.getfield 544, 3) := by decide +kernel
theorem dX12_asks_29 : decode cX12_asks 29 = .ok (.iastore, 1) := by decide +kernel
theorem dX12_asks_30 : decode cX12_asks 30 = .ok (.aload_n 0, 1) := by decide +kernel
theorem dX12_asks_31 : decode cX12_asks 31 = .ok (.iload_n 1, 1) := by decide +kernel
theorem dX12_asks_32 : decode cX12_asks 32 = .ok (.aload_n 0, 1) := by decide +kernel
theorem dX12_asks_33 : decode cX12_asks 33 = .ok (.getfield 130, 3) := by decide +kernel
theorem dX12_asks_36 : decode cX12_asks 36 = .ok (.iload_n 1, 1) := by decide +kernel
theorem dX12_asks_37 : decode cX12_asks 37 = .ok (.iaload, 1) := by decide +kernel
theorem dX12_asks_38 : decode cX12_asks 38 = .ok (.iconst 0, 1) := by decide +kernel
theorem dX12_asks_39 : decode cX12_asks 39 = .ok (.aload_n 0, 1) := by decide +kernel
theorem dX12_asks_40 : decode cX12_asks 40 = .ok (.getfield 142, 3) := by decide +kernel
theorem dX12_asks_43 : decode cX12_asks 43 = .ok (.iload_n 1, 1) := by decide +kernel
theorem dX12_asks_44 : decode cX12_asks 44 = .ok (.iaload, 1) := by decide +kernel
theorem dX12_asks_45 : decode cX12_asks 45 = .ok (.invokevirtual 581, 3) := by decide +kernel
theorem dX12_asks_48 : decode cX12_asks 48 = .ok (.aload_n 0, 1) := by decide +kernel
theorem dX12_asks_49 : decode cX12_asks 49 = .ok (.getfield 142, 3) := by decide +kernel
theorem dX12_asks_52 : decode cX12_asks 52 = .ok (.iload_n 1, 1) := by decide +kernel
theorem dX12_asks_53 : decode cX12_asks 53 = .ok (.iaload, 1) := by decide +kernel
theorem dX12_asks_54 : decode cX12_asks 54 = .ok (.istore_n 2, 1) := by decide +kernel
theorem dX12_asks_55 : decode cX12_asks 55 = .ok (.aload_n 0, 1) := by decide +kernel
theorem dX12_asks_56 : decode cX12_asks 56 = .ok (.iload_n 1, 1) := by decide +kernel
theorem dX12_asks_57 : decode cX12_asks 57 = .ok (.aload_n 0, 1) := by decide +kernel
theorem dX12_asks_58 : decode cX12_asks 58 = .ok (.aload_n 0, 1) := by decide +kernel
theorem dX12_asks_59 : decode cX12_asks 59 = .ok (.getfield 127, 3) := by decide +kernel
theorem dX12_asks_62 : decode cX12_asks 62 = .ok (.iconst 2, 1) := by decide +kernel
theorem dX12_asks_63 : decode cX12_asks 63 = .ok (.iload_n 1, 1) := by decide +kernel
theorem dX12_asks_64 : decode cX12_asks 64 = .ok (.imul, 1) := by decide +kernel
theorem dX12_asks_65 : decode cX12_asks 65 = .ok (.iaload, 1) := by decide +kernel
theorem dX12_asks_66 : decode cX12_asks 66 = .ok (.invokevirtual 585, 3) := by decide +kernel
theorem dX12_asks_69 : decode cX12_asks 69 = .ok (.iconst 1, 1) := by decide +kernel
theorem dX12_asks_70 : decode cX12_asks 70 = .ok (.iload_n 2, 1) := by decide +kernel
theorem dX12_asks_71 : decode cX12_asks 71 = .ok (.iload_n 2, 1) := by decide +kernel
theorem dX12_asks_72 : decode cX12_asks 72 = .ok (.iconst 2, 1) := by decide +kernel
theorem dX12_asks_73 : decode cX12_asks 73 = .ok (.idiv, 1) := by decide +kernel
theorem dX12_asks_74 : decode cX12_asks 74 = .ok (.isub, 1) := by decide +kernel
theorem dX12_asks_75 : decode cX12_asks 75 = .ok (.invokevirtual 581, 3) := by decide +kernel
theorem dX12_asks_78 : decode cX12_asks 78 = .ok (.aload_n 0, 1) := by decide +kernel
theorem dX12_asks_79 : decode cX12_asks 79 = .ok (.iload_n 1, 1) := by decide +kernel
theorem dX12_asks_80 : decode cX12_asks 80 = .ok (.aload_n 0, 1) := by decide +kernel
theorem dX12_asks_81 : decode cX12_asks 81 = .ok (.aload_n 0, 1) := by decide +kernel
theorem dX12_asks_82 : decode cX12_asks 82 = .ok (.getfield 127, 3) := by decide +kernel
theorem dX12_asks_85 : decode cX12_asks 85 = .ok (.iconst 2, 1) := by decide +kernel
theorem dX12_asks_86 : decode cX12_asks 86 = .ok (.iload_n 1, 1) := by decide +kernel
theorem dX12_asks_87 : decode cX12_asks 87 = .ok (.imul, 1) := by decide +kernel
theorem dX12_asks_88 : decode cX12_asks 88 = .ok (.iconst 1, 1) := by decide +kernel
theorem dX12_asks_89 : decode cX12_asks 89 = .ok (.iadd, 1) := by decide +kernel
theorem dX12_asks_90 : decode cX12_asks 90 = .ok (.iaload, 1) := by decide +kernel
theorem dX12_asks_91 : decode cX12_asks 91 = .ok (.invokevirtual 585, 3) := by decide +kernel
theorem dX12_asks_94 : decode cX12_asks 94 = .ok (.iconst 2, 1) := by decide +kernel
theorem dX12_asks_95 : decode cX12_asks 95 = .ok (.iload_n 2, 1) := by decide +kernel
theorem dX12_asks_96 : decode cX12_asks 96 = .ok (.iconst 2, 1) := by decide +kernel
theorem dX12_asks_97 : decode cX12_asks 97 = .ok (.idiv, 1) := by decide +kernel
theorem dX12_asks_98 : decode cX12_asks 98 = .ok (.invokevirtual 581, 3) := by decide +kernel
theorem dX12_asks_101 : decode cX12_asks 101 = .ok (.aload_n 0, 1) := by decide +kernel
theorem dX12_asks_102 : decode cX12_asks 102 = .ok (.iload_n 1, 1) := by decide +kernel
theorem dX12_asks_103 : decode cX12_asks 103 = .ok (.aload_n 0, 1) := by decide +kernel
theorem dX12_asks_104 : decode cX12_asks 104 = .ok (.getfield 142, 3) := by decide +kernel
theorem dX12_asks_107 : decode cX12_asks 107 = .ok (.iload_n 1, 1) := by decide +kernel
theorem dX12_asks_108 : decode cX12_asks 108 = .ok (.iaload, 1) := by decide +kernel
theorem dX12_asks_109 : decode cX12_asks 109 = .ok (.ifCond .ne 7, 3) := by decide +kernel
theorem dX12_asks_112 : decode cX12_asks 112 = .ok (.iconst 3, 1) := by decide +kernel
theorem dX12_asks_113 : decode cX12_asks 113 = .ok (.goto 4, 3) := by decide +kernel
theorem dX12_asks_116 : decode cX12_asks 116 = .ok (.iconst 4, 1) := by decide +kernel
theorem dX12_asks_117 : decode cX12_asks 117 = .ok (.invokevirtual 572, 3) := by decide +kernel
theorem dX12_asks_120 : decode cX12_asks 120 = .ok (.return_, 1) := by decide +kernel
def B_M_asks_117   (z1 : Int32) (z2 : Int32) (σ : CS) : Option (Int32 × CS) := bnd (f_M_becomes z1 z2 σ) (fun _ σ117 => some (0, σ117))
set_option maxHeartbeats 4000000 in
set_option maxRecDepth 100000 in
theorem w_M_asks_117 (C : Cx g p s m args meth c A 3 cX12_asks yX12_asks.cls) (hr : meth.sig.returnType = none)  {res : Int32 × CS}   (z1 : Int32) (z2 : Int32)  (σ : CS) (h : B_M_asks_117 z1 z2 σ = some res) : NMV g p l e s m args below meth c A 6 166 3 am Rr res σ [] 117 [.int z2, .int z1, .ref (am 112)] := by
  unfold B_M_asks_117 at h
  refine nm_callVV (q0 := 0) (As := [.int z1, .int z2]) (rest := []) C h (fun _ _ e => c_M_becomes e) tw_2271 kv_X12_becomes ml_O rfl ⟨Nat.le_of_ble_eq_true rfl, Nat.le_of_ble_eq_true rfl⟩ rfl dX12_asks_117 rfl (Nat.le_of_ble_eq_true rfl) (fun r117 σ117 h => ?_)
  exact nm_vret C hr dX12_asks_120 h
def B_M_asks_30   (x1 : Int32) (σ : CS) : Option (Int32 × CS) := gix x1 40 (gix x1 40 (bnd (f_M_pays x1 (rd σ 64 x1) 0 (rd σ 68 x1) σ) (fun _ σ45 => gix x1 40 (gix (2 * x1) 80 (bnd (f_M_payer (rd σ45 63 (2 * x1)) σ45) (fun r66 σ66 => bnd (f_M_pays x1 r66 1 ((rd σ45 68 x1) - ((rd σ45 68 x1) / 2)) σ66) (fun _ σ75 => gix ((2 * x1) + 1) 80 (bnd (f_M_payer (rd σ75 63 ((2 * x1) + 1)) σ75) (fun r91 σ91 => bnd (f_M_pays x1 r91 2 ((rd σ45 68 x1) / 2) σ91) (fun _ σ98 => gix x1 40 (if (rd σ98 68 x1) = 0 then B_M_asks_117 x1 3 σ98 else B_M_asks_117 x1 4 σ98)))))))))))
set_option maxHeartbeats 4000000 in
set_option maxRecDepth 100000 in
theorem w_M_asks_30 (C : Cx g p s m args meth c A 3 cX12_asks yX12_asks.cls) (hr : meth.sig.returnType = none)  {res : Int32 × CS}   (x1 : Int32)  (σ : CS) (h : B_M_asks_30 x1 σ = some res) : NMV g p l e s m args below meth c A 6 166 3 am Rr res σ [(0, .ref (am 112)), (1, .int x1)] 30 [] := by
  unfold B_M_asks_30 at h
  refine nw_aload_n C dX12_asks_30 rfl 0 rfl ?_
  refine nw_iload_n C dX12_asks_31 rfl 1 rfl ?_
  refine nw_aload_n C dX12_asks_32 rfl 0 rfl ?_
  refine nw_get (v := .ref (am 64)) C in_X12 0 ml_O rfl 64 (by decide) tw_1637 rfl mf_64 dX12_asks_33 ?_
  refine nw_iload_n C dX12_asks_36 rfl 1 rfl ?_
  refine nw_iald C 39 ml_64 dX12_asks_37 h (fun h => ?_)
  refine nw_iconst (v := 0) C dX12_asks_38 (by decide) ?_
  refine nw_aload_n C dX12_asks_39 rfl 0 rfl ?_
  refine nw_get (v := .ref (am 68)) C in_X12 0 ml_O rfl 68 (by decide) tw_1641 rfl mf_68 dX12_asks_40 ?_
  refine nw_iload_n C dX12_asks_43 rfl 1 rfl ?_
  refine nw_iald C 43 ml_68 dX12_asks_44 h (fun h => ?_)
  refine nm_callVV (q0 := 0) (As := [.int x1, .int (rd σ 64 x1), .int 0, .int (rd σ 68 x1)]) (rest := []) C h (fun _ _ e => c_M_pays e) tw_2279 kv_X12_pays ml_O rfl ⟨Nat.le_of_ble_eq_true rfl, Nat.le_of_ble_eq_true rfl⟩ rfl dX12_asks_45 rfl (Nat.le_of_ble_eq_true rfl) (fun r45 σ45 h => ?_)
  refine nw_aload_n C dX12_asks_48 rfl 0 rfl ?_
  refine nw_get (v := .ref (am 68)) C in_X12 0 ml_O rfl 68 (by decide) tw_1641 rfl mf_68 dX12_asks_49 ?_
  refine nw_iload_n C dX12_asks_52 rfl 1 rfl ?_
  refine nw_iald C 43 ml_68 dX12_asks_53 h (fun h => ?_)
  refine nw_istore_n (lv' := [(2, .int (rd σ45 68 x1)), (0, .ref (am 112)), (1, .int x1)]) C dX12_asks_54 rfl (by decide) rfl ?_
  refine nw_aload_n C dX12_asks_55 rfl 1 rfl ?_
  refine nw_iload_n C dX12_asks_56 rfl 2 rfl ?_
  refine nw_aload_n C dX12_asks_57 rfl 1 rfl ?_
  refine nw_aload_n C dX12_asks_58 rfl 1 rfl ?_
  refine nw_get (v := .ref (am 63)) C in_X12 0 ml_O rfl 63 (by decide) tw_1636 rfl mf_63 dX12_asks_59 ?_
  refine nw_iconst (v := 2) C dX12_asks_62 (by decide) ?_
  refine nw_iload_n C dX12_asks_63 rfl 2 rfl ?_
  refine nw_imul C dX12_asks_64 ?_
  refine nw_iald C 38 ml_63 dX12_asks_65 h (fun h => ?_)
  refine nm_callVI (q0 := 0) (As := [.int (rd σ45 63 (2 * x1))]) (rest := [.int x1, .ref (am 112)]) C h (fun _ _ e => c_M_payer e) tw_2287 kv_X12_payer ml_O rfl ⟨Nat.le_of_ble_eq_true rfl, Nat.le_of_ble_eq_true rfl⟩ rfl dX12_asks_66 rfl (Nat.le_of_ble_eq_true rfl) (fun r66 σ66 h => ?_)
  refine nw_iconst (v := 1) C dX12_asks_69 (by decide) ?_
  refine nw_iload_n C dX12_asks_70 rfl 0 rfl ?_
  refine nw_iload_n C dX12_asks_71 rfl 0 rfl ?_
  refine nw_iconst (v := 2) C dX12_asks_72 (by decide) ?_
  refine nw_idivk C dX12_asks_73 (by decide) ?_
  refine nw_isub C dX12_asks_74 ?_
  refine nm_callVV (q0 := 0) (As := [.int x1, .int r66, .int 1, .int ((rd σ45 68 x1) - ((rd σ45 68 x1) / 2))]) (rest := []) C h (fun _ _ e => c_M_pays e) tw_2279 kv_X12_pays ml_O rfl ⟨Nat.le_of_ble_eq_true rfl, Nat.le_of_ble_eq_true rfl⟩ rfl dX12_asks_75 rfl (Nat.le_of_ble_eq_true rfl) (fun r75 σ75 h => ?_)
  refine nw_aload_n C dX12_asks_78 rfl 1 rfl ?_
  refine nw_iload_n C dX12_asks_79 rfl 2 rfl ?_
  refine nw_aload_n C dX12_asks_80 rfl 1 rfl ?_
  refine nw_aload_n C dX12_asks_81 rfl 1 rfl ?_
  refine nw_get (v := .ref (am 63)) C in_X12 0 ml_O rfl 63 (by decide) tw_1636 rfl mf_63 dX12_asks_82 ?_
  refine nw_iconst (v := 2) C dX12_asks_85 (by decide) ?_
  refine nw_iload_n C dX12_asks_86 rfl 2 rfl ?_
  refine nw_imul C dX12_asks_87 ?_
  refine nw_iconst (v := 1) C dX12_asks_88 (by decide) ?_
  refine nw_iadd C dX12_asks_89 ?_
  refine nw_iald C 38 ml_63 dX12_asks_90 h (fun h => ?_)
  refine nm_callVI (q0 := 0) (As := [.int (rd σ75 63 ((2 * x1) + 1))]) (rest := [.int x1, .ref (am 112)]) C h (fun _ _ e => c_M_payer e) tw_2287 kv_X12_payer ml_O rfl ⟨Nat.le_of_ble_eq_true rfl, Nat.le_of_ble_eq_true rfl⟩ rfl dX12_asks_91 rfl (Nat.le_of_ble_eq_true rfl) (fun r91 σ91 h => ?_)
  refine nw_iconst (v := 2) C dX12_asks_94 (by decide) ?_
  refine nw_iload_n C dX12_asks_95 rfl 0 rfl ?_
  refine nw_iconst (v := 2) C dX12_asks_96 (by decide) ?_
  refine nw_idivk C dX12_asks_97 (by decide) ?_
  refine nm_callVV (q0 := 0) (As := [.int x1, .int r91, .int 2, .int ((rd σ45 68 x1) / 2)]) (rest := []) C h (fun _ _ e => c_M_pays e) tw_2279 kv_X12_pays ml_O rfl ⟨Nat.le_of_ble_eq_true rfl, Nat.le_of_ble_eq_true rfl⟩ rfl dX12_asks_98 rfl (Nat.le_of_ble_eq_true rfl) (fun r98 σ98 h => ?_)
  refine nw_aload_n C dX12_asks_101 rfl 1 rfl ?_
  refine nw_iload_n C dX12_asks_102 rfl 2 rfl ?_
  refine nw_aload_n C dX12_asks_103 rfl 1 rfl ?_
  refine nw_get (v := .ref (am 68)) C in_X12 0 ml_O rfl 68 (by decide) tw_1641 rfl mf_68 dX12_asks_104 ?_
  refine nw_iload_n C dX12_asks_107 rfl 2 rfl ?_
  refine nw_iald C 43 ml_68 dX12_asks_108 h (fun h => ?_)
  refine nw_if_ne (tgt := 116) C dX12_asks_109 (by decide) h (fun _ h => ?_) (fun _ h => ?_)
  · refine nw_iconst (v := 3) C dX12_asks_112 (by decide) ?_
    refine nw_goto (tgt := 117) C dX12_asks_113 (by decide) ?_
    exact nw_lv (lv' := []) [] rfl (w_M_asks_117 C hr x1 3 _ h)
  · refine nw_iconst (v := 4) C dX12_asks_116 (by decide) ?_
    exact nw_lv (lv' := []) [] rfl (w_M_asks_117 C hr x1 4 _ h)
def f_M_asks (p0 : Int32) (σ : CS) : Option (Int32 × CS) := gix p0 40 (if (rd σ 65 p0) = 2 then gix p0 40 (bnd (f_M_words (rd σ 61 p0) σ) (fun _ σ17 => gix p0 40 (B_M_asks_30 p0 (wr σ17 68 p0 (σ17.1 58))))) else B_M_asks_30 p0 σ)
set_option maxHeartbeats 4000000 in
set_option maxRecDepth 100000 in
theorem c_M_asks {l : Launch} {g : EG} {am : Nat → Nat} {Rr : va_W} {σ σ' : CS} {r : Int32} {p0 : Int32}  (h : f_M_asks p0 σ = some (r, σ')) : CmV l g yX12_asks (.code yX12_asks cX12_asks 3 none) 6 166 am Rr σ [.ref (am 112), .int p0] r σ' := by
  refine Ct.of rfl (by decide) (Nat.le_of_ble_eq_true rfl) ?_
  intro p e s m args below meth c A C hr
  show NMV g p l e s m args below meth c A 6 166 3 am Rr (r, σ') σ [(0, .ref (am 112)), (1, .int p0)] 0 []
  unfold f_M_asks at h
  refine nw_aload_n C dX12_asks_0 rfl 0 rfl ?_
  refine nw_get (v := .ref (am 65)) C in_X12 0 ml_O rfl 65 (by decide) tw_1638 rfl mf_65 dX12_asks_1 ?_
  refine nw_iload_n C dX12_asks_4 rfl 1 rfl ?_
  refine nw_iald C 40 ml_65 dX12_asks_5 h (fun h => ?_)
  refine nw_iconst (v := 2) C dX12_asks_6 (by decide) ?_
  refine nw_icmp_ne (tgt := 30) C dX12_asks_7 (by decide) h (fun _ h => ?_) (fun _ h => ?_)
  · refine nw_aload_n C dX12_asks_10 rfl 0 rfl ?_
    refine nw_aload_n C dX12_asks_11 rfl 0 rfl ?_
    refine nw_get (v := .ref (am 61)) C in_X12 0 ml_O rfl 61 (by decide) tw_1634 rfl mf_61 dX12_asks_12 ?_
    refine nw_iload_n C dX12_asks_15 rfl 1 rfl ?_
    refine nw_iald C 36 ml_61 dX12_asks_16 h (fun h => ?_)
    refine nm_callVV (q0 := 0) (As := [.int (rd σ 61 p0)]) (rest := []) C h (fun _ _ e => c_M_words e) tw_2212 kv_X12_words ml_O rfl ⟨Nat.le_of_ble_eq_true rfl, Nat.le_of_ble_eq_true rfl⟩ rfl dX12_asks_17 rfl (Nat.le_of_ble_eq_true rfl) (fun r17 σ17 h => ?_)
    refine nw_aload_n C dX12_asks_20 rfl 0 rfl ?_
    refine nw_get (v := .ref (am 68)) C in_X12 0 ml_O rfl 68 (by decide) tw_1641 rfl mf_68 dX12_asks_21 ?_
    refine nw_iload_n C dX12_asks_24 rfl 1 rfl ?_
    refine nw_aload_n C dX12_asks_25 rfl 0 rfl ?_
    refine nw_get (v := .int (σ17.1 58)) C in_X12 0 ml_O rfl 58 (by decide) tw_1631 rfl mf_58 dX12_asks_26 ?_
    refine nw_iast C 43 ml_68 dX12_asks_29 h ms_68 (fun h => ?_)
    exact nw_lv (lv' := [(0, .ref (am 112)), (1, .int p0)]) [0, 1] rfl (w_M_asks_30 C hr p0 _ h)
  · exact nw_lv (lv' := [(0, .ref (am 112)), (1, .int p0)]) [0, 1] rfl (w_M_asks_30 C hr p0 _ h)
theorem dX12_sits_0 : decode cX12_sits 0 = .ok (.iconst 0, 1) := by decide +kernel
theorem dX12_sits_1 : decode cX12_sits 1 = .ok (.istore_n 2, 1) := by decide +kernel
theorem dX12_sits_2 : decode cX12_sits 2 = .ok (.iload_n 2, 1) := by decide +kernel
theorem dX12_sits_3 : decode cX12_sits 3 = .ok (.aload_n 0, 1) := by decide +kernel
theorem dX12_sits_4 : decode cX12_sits 4 = .ok (.getfield 566, 3) := by decide +kernel
theorem dX12_sits_7 : decode cX12_sits 7 = .ok (.if_icmp .ge 152, 3) := by decide +kernel
theorem dX12_sits_10 : decode cX12_sits 10 = .ok (.aload_n 0, 1) := by decide +kernel
theorem dX12_sits_11 : decode cX12_sits 11 = .ok (.getfield 133, 3) := by decide +kernel
theorem dX12_sits_14 : decode cX12_sits 14 = .ok (.iload_n 2, 1) := by decide +kernel
theorem dX12_sits_15 : decode cX12_sits 15 = .ok (.iaload, 1) := by decide +kernel
theorem dX12_sits_16 : decode cX12_sits 16 = .ok (.iload_n 1, 1) := by decide +kernel
theorem dX12_sits_17 : decode cX12_sits 17 = .ok (.if_icmp .ne 16, 3) := by decide +kernel
theorem dX12_sits_20 : decode cX12_sits 20 = .ok (.aload_n 0, 1) := by decide +kernel
theorem dX12_sits_21 : decode cX12_sits 21 = .ok (.getfield 136, 3) := by decide +kernel
theorem dX12_sits_24 : decode cX12_sits 24 = .ok (.iload_n 2, 1) := by decide +kernel
theorem dX12_sits_25 : decode cX12_sits 25 = .ok (.iaload, 1) := by decide +kernel
theorem dX12_sits_26 : decode cX12_sits 26 = .ok (.aload_n 0, 1) := by decide +kernel
theorem dX12_sits_27 : decode cX12_sits 27 = .ok (.getfield 513, 3) := by decide +kernel
theorem dX12_sits_30 : decode cX12_sits 30 = .ok (.if_icmp .lt 18, 3) := by decide +kernel
theorem dX12_sits_33 : decode cX12_sits 33 = .ok (.iload_n 1, 1) := by decide +kernel
theorem dX12_sits_34 : decode cX12_sits 34 = .ok (.iconst 2, 1) := by decide +kernel
theorem dX12_sits_35 : decode cX12_sits 35 = .ok (.if_icmp .ne 17, 3) := by decide +kernel
theorem dX12_sits_38 : decode cX12_sits 38 = .ok (.aload_n 0, 1) := by decide +kernel
theorem dX12_sits_39 : decode cX12_sits 39 = .ok (.getfield 133, 3) := by decide +kernel
theorem dX12_sits_42 : decode cX12_sits 42 = .ok (.iload_n 2, 1) := by decide +kernel
theorem dX12_sits_43 : decode cX12_sits 43 = .ok (.iaload, 1) := by decide +kernel
theorem dX12_sits_44 : decode cX12_sits 44 = .ok (.iconst 4, 1) := by decide +kernel
theorem dX12_sits_45 : decode cX12_sits 45 = .ok (.if_icmp .ne 7, 3) := by decide +kernel
theorem dX12_sits_48 : decode cX12_sits 48 = .ok (.iconst 1, 1) := by decide +kernel
theorem dX12_sits_49 : decode cX12_sits 49 = .ok (.goto 4, 3) := by decide +kernel
theorem dX12_sits_52 : decode cX12_sits 52 = .ok (.iconst 0, 1) := by decide +kernel
theorem dX12_sits_53 : decode cX12_sits 53 = .ok (.istore_n 3, 1) := by decide +kernel
theorem dX12_sits_54 : decode cX12_sits 54 = .ok (.iload_n 3, 1) := by decide +kernel
theorem dX12_sits_55 : decode cX12_sits 55 = .ok (.ifCond .eq 98, 3) := by decide +kernel
theorem dX12_sits_58 : decode cX12_sits 58 = .ok (.aload_n 0, 1) := by decide +kernel
theorem dX12_sits_59 : decode cX12_sits 59 = .ok (.iload_n 2, 1) := by decide +kernel
theorem dX12_sits_60 : decode cX12_sits 60 = .ok (.invokevirtual 588, 3) := by decide +kernel
theorem dX12_sits_63 : decode cX12_sits 63 = .ok (.ifCond .ne 6, 3) := by decide +kernel
theorem dX12_sits_66 : decode cX12_sits 66 = .ok (.goto 87, 3) := by decide +kernel
theorem dX12_sits_69 : decode cX12_sits 69 = .ok (.iload_n 1, 1) := by decide +kernel
theorem dX12_sits_70 : decode cX12_sits 70 = .ok (.ifCond .ne 37, 3) := by decide +kernel
theorem dX12_sits_73 : decode cX12_sits 73 = .ok (.aload_n 0, 1) := by decide +kernel
theorem dX12_sits_74 : decode cX12_sits 74 = .ok (.iload_n 2, 1) := by decide +kernel
theorem dX12_sits_75 : decode cX12_sits 75 = .ok (.aload_n 0, 1) := by decide +kernel
theorem dX12_sits_76 : decode cX12_sits 76 = .ok (.getfield 94, 3) := by decide +kernel
theorem dX12_sits_79 : decode cX12_sits 79 = .ok (.aload_n 0, 1) := by decide +kernel
theorem dX12_sits_80 : decode cX12_sits 80 = .ok (.getfield 124, 3) := by decide +kernel
theorem dX12_sits_83 : decode cX12_sits 83 = .ok (.iload_n 2, 1) := by decide +kernel
theorem dX12_sits_84 : decode cX12_sits 84 = .ok (.iaload, 1) := by decide +kernel
theorem dX12_sits_85 : decode cX12_sits 85 = .ok (.iaload, 1) := by decide +kernel
theorem dX12_sits_86 : decode cX12_sits 86 = .ok (.aload_n 0, 1) := by decide +kernel
theorem dX12_sits_87 : decode cX12_sits 87 = .ok (.getfield 139, 3) := by decide +kernel
theorem dX12_sits_90 : decode cX12_sits 90 = .ok (.iload_n 2, 1) := by decide +kernel
theorem dX12_sits_91 : decode cX12_sits 91 = .ok (.iaload, 1) := by decide +kernel
theorem dX12_sits_92 : decode cX12_sits 92 = .ok (.iadd, 1) := by decide +kernel
theorem dX12_sits_93 : decode cX12_sits 93 = .ok (.ifCond .gt 7, 3) := by decide +kernel
theorem dX12_sits_96 : decode cX12_sits 96 = .ok (.iconst 5, 1) := by decide +kernel
theorem dX12_sits_97 : decode cX12_sits 97 = .ok (.goto 4, 3) := by decide +kernel
theorem dX12_sits_100 : decode cX12_sits 100 = .ok (.iconst 1, 1) := by decide +kernel
theorem dX12_sits_101 : decode cX12_sits 101 = .ok (.invokevirtual 572, 3) := by decide +kernel
theorem dX12_sits_104 : decode cX12_sits 104 = .ok (.goto 49, 3) := by decide +kernel
theorem dX12_sits_107 : decode cX12_sits 107 = .ok (.iload_n 1, 1) := by decide +kernel
theorem dX12_sits_108 : decode cX12_sits 108 = .ok (.iconst 1, 1) := by decide +kernel
theorem dX12_sits_109 : decode cX12_sits 109 = .ok (.if_icmp .ne 39, 3) := by decide +kernel
theorem dX12_sits_112 : decode cX12_sits 112 = .ok (.aload_n 0, 1) := by decide +kernel
theorem dX12_sits_113 : decode cX12_sits 113 = .ok (.iload_n 2, 1) := by decide +kernel
theorem dX12_sits_114 : decode cX12_sits 114 = .ok (.aload_n 0, 1) := by decide +kernel
theorem dX12_sits_115 : decode cX12_sits 115 = .ok (.getfield 139, 3) := by decide +kernel
theorem dX12_sits_118 : decode cX12_sits 118 = .ok (.iload_n 2, 1) := by decide +kernel
theorem dX12_sits_119 : decode cX12_sits 119 = .ok (.iaload, 1) := by decide +kernel
theorem dX12_sits_120 : decode cX12_sits 120 = .ok (.ifCond .gt 21, 3) := by decide +kernel
theorem dX12_sits_123 : decode cX12_sits 123 = .ok (.aload_n 0, 1) := by decide +kernel
theorem dX12_sits_124 : decode cX12_sits 124 = .ok (.aload_n 0, 1) := by decide +kernel
theorem dX12_sits_125 : decode cX12_sits 125 = .ok (.getfield 121, 3) := by decide +kernel
theorem dX12_sits_128 : decode cX12_sits 128 = .ok (.iload_n 2, 1) := by decide +kernel
theorem dX12_sits_129 : decode cX12_sits 129 = .ok (.iaload, 1) := by decide +kernel
theorem dX12_sits_130 : decode cX12_sits 130 = .ok (.invokevirtual 531, 3) := by decide +kernel
theorem dX12_sits_133 : decode cX12_sits 133 = .ok (.iconst 2, 1) := by decide +kernel
theorem dX12_sits_134 : decode cX12_sits 134 = .ok (.if_icmp .ne 7, 3) := by decide +kernel
theorem dX12_sits_137 : decode cX12_sits 137 = .ok (.iconst 5, 1) := by decide +kernel
theorem dX12_sits_138 : decode cX12_sits 138 = .ok (.goto 4, 3) := by decide +kernel
theorem dX12_sits_141 : decode cX12_sits 141 = .ok (.iconst 2, 1) := by decide +kernel
theorem dX12_sits_142 : decode cX12_sits 142 = .ok (.invokevirtual 572, 3) := by decide +kernel
theorem dX12_sits_145 : decode cX12_sits 145 = .ok (.goto 8, 3) := by decide +kernel
theorem dX12_sits_148 : decode cX12_sits 148 = .ok (.aload_n 0, 1) := by decide +kernel
theorem dX12_sits_149 : decode cX12_sits 149 = .ok (.iload_n 2, 1) := by decide +kernel
theorem dX12_sits_150 : decode cX12_sits 150 = .ok (.invokevirtual 591, 3) := by decide +kernel
theorem dX12_sits_153 : decode cX12_sits 153 = .ok (.iinc 2 1, 3) := by decide +kernel
theorem dX12_sits_156 : decode cX12_sits 156 = .ok (.goto (-154), 3) := by decide +kernel
theorem dX12_sits_159 : decode cX12_sits 159 = .ok (.return_, 1) := by decide +kernel
def B_M_sits_101 (k2 : Int32 → CS → Option (Int32 × CS)) (x1 : Int32) (x2 : Int32) (z1 : Int32) (z2 : Int32) (σ : CS) : Option (Int32 × CS) := bnd (f_M_becomes z1 z2 σ) (fun _ σ101 => k2 (x2 + 1) σ101)
set_option maxHeartbeats 4000000 in
set_option maxRecDepth 100000 in
theorem w_M_sits_101 (C : Cx g p s m args meth c A 4 cX12_sits yX12_sits.cls) (hr : meth.sig.returnType = none)  {res : Int32 × CS}  (x1 : Int32) (x2 : Int32) (z1 : Int32) (z2 : Int32) {k2 : Int32 → CS → Option (Int32 × CS)} (hk2 : ∀ (x2 : Int32) (σ : CS), k2 x2 σ = some res → NMV g p l e s m args below meth c A 7 188 4 am Rr res σ [(0, .ref (am 112)), (1, .int x1), (2, .int x2)] 2 []) (σ : CS) (h : B_M_sits_101 k2 x1 x2 z1 z2 σ = some res) : NMV g p l e s m args below meth c A 7 188 4 am Rr res σ [(0, .ref (am 112)), (1, .int x1), (2, .int x2)] 101 [.int z2, .int z1, .ref (am 112)] := by
  unfold B_M_sits_101 at h
  refine nm_callVV (q0 := 0) (As := [.int z1, .int z2]) (rest := []) C h (fun _ _ e => c_M_becomes e) tw_2271 kv_X12_becomes ml_O rfl ⟨Nat.le_of_ble_eq_true rfl, Nat.le_of_ble_eq_true rfl⟩ rfl dX12_sits_101 rfl (Nat.le_of_ble_eq_true rfl) (fun r101 σ101 h => ?_)
  refine nw_goto (tgt := 153) C dX12_sits_104 (by decide) ?_
  refine nw_iinc (lv' := [(2, .int (x2 + 1)), (0, .ref (am 112)), (1, .int x1)]) C (x2 + 1) dX12_sits_153 2 rfl rfl (by decide) rfl ?_
  refine nw_goto (tgt := 2) C dX12_sits_156 (by decide) ?_
  exact nw_lv (lv' := [(0, .ref (am 112)), (1, .int x1), (2, .int (x2 + 1))]) [1, 2, 0] rfl (hk2 (x2 + 1) _ h)
def B_M_sits_142 (k2 : Int32 → CS → Option (Int32 × CS)) (x1 : Int32) (x2 : Int32) (z1 : Int32) (z2 : Int32) (σ : CS) : Option (Int32 × CS) := bnd (f_M_becomes z1 z2 σ) (fun _ σ142 => k2 (x2 + 1) σ142)
set_option maxHeartbeats 4000000 in
set_option maxRecDepth 100000 in
theorem w_M_sits_142 (C : Cx g p s m args meth c A 4 cX12_sits yX12_sits.cls) (hr : meth.sig.returnType = none)  {res : Int32 × CS}  (x1 : Int32) (x2 : Int32) (z1 : Int32) (z2 : Int32) {k2 : Int32 → CS → Option (Int32 × CS)} (hk2 : ∀ (x2 : Int32) (σ : CS), k2 x2 σ = some res → NMV g p l e s m args below meth c A 7 188 4 am Rr res σ [(0, .ref (am 112)), (1, .int x1), (2, .int x2)] 2 []) (σ : CS) (h : B_M_sits_142 k2 x1 x2 z1 z2 σ = some res) : NMV g p l e s m args below meth c A 7 188 4 am Rr res σ [(0, .ref (am 112)), (1, .int x1), (2, .int x2)] 142 [.int z2, .int z1, .ref (am 112)] := by
  unfold B_M_sits_142 at h
  refine nm_callVV (q0 := 0) (As := [.int z1, .int z2]) (rest := []) C h (fun _ _ e => c_M_becomes e) tw_2271 kv_X12_becomes ml_O rfl ⟨Nat.le_of_ble_eq_true rfl, Nat.le_of_ble_eq_true rfl⟩ rfl dX12_sits_142 rfl (Nat.le_of_ble_eq_true rfl) (fun r142 σ142 h => ?_)
  refine nw_goto (tgt := 153) C dX12_sits_145 (by decide) ?_
  refine nw_iinc (lv' := [(2, .int (x2 + 1)), (0, .ref (am 112)), (1, .int x1)]) C (x2 + 1) dX12_sits_153 2 rfl rfl (by decide) rfl ?_
  refine nw_goto (tgt := 2) C dX12_sits_156 (by decide) ?_
  exact nw_lv (lv' := [(0, .ref (am 112)), (1, .int x1), (2, .int (x2 + 1))]) [1, 2, 0] rfl (hk2 (x2 + 1) _ h)
def B_M_sits_141 (k2 : Int32 → CS → Option (Int32 × CS)) (x1 : Int32) (x2 : Int32) (z1 : Int32) (σ : CS) : Option (Int32 × CS) := B_M_sits_142 k2 x1 x2 z1 2 σ
set_option maxHeartbeats 4000000 in
set_option maxRecDepth 100000 in
theorem w_M_sits_141 (C : Cx g p s m args meth c A 4 cX12_sits yX12_sits.cls) (hr : meth.sig.returnType = none)  {res : Int32 × CS}  (x1 : Int32) (x2 : Int32) (z1 : Int32) {k2 : Int32 → CS → Option (Int32 × CS)} (hk2 : ∀ (x2 : Int32) (σ : CS), k2 x2 σ = some res → NMV g p l e s m args below meth c A 7 188 4 am Rr res σ [(0, .ref (am 112)), (1, .int x1), (2, .int x2)] 2 []) (σ : CS) (h : B_M_sits_141 k2 x1 x2 z1 σ = some res) : NMV g p l e s m args below meth c A 7 188 4 am Rr res σ [(0, .ref (am 112)), (1, .int x1), (2, .int x2)] 141 [.int z1, .ref (am 112)] := by
  unfold B_M_sits_141 at h
  refine nw_iconst (v := 2) C dX12_sits_141 (by decide) ?_
  exact nw_lv (lv' := [(0, .ref (am 112)), (1, .int x1), (2, .int x2)]) [0, 1, 2] rfl (w_M_sits_142 C hr x1 x2 z1 2 hk2 _ h)
def B_M_sits_53 (k2 : Int32 → CS → Option (Int32 × CS)) (x1 : Int32) (x2 : Int32) (z0 : Int32) (σ : CS) : Option (Int32 × CS) := if z0 = 0 then k2 (x2 + 1) σ else bnd (f_M_isAnswered x2 σ) (fun r60 σ60 => if r60 = 0 then k2 (x2 + 1) σ60 else if x1 = 0 then gix x2 40 (gix (rd σ60 62 x2) 6 (gix x2 40 (if 0 < ((rd σ60 46 (rd σ60 62 x2)) + (rd σ60 67 x2)) then B_M_sits_101 k2 x1 x2 x2 1 σ60 else B_M_sits_101 k2 x1 x2 x2 5 σ60))) else if x1 = 1 then gix x2 40 (if 0 < (rd σ60 67 x2) then B_M_sits_141 k2 x1 x2 x2 σ60 else gix x2 40 (bnd (f_M_deedPlace (rd σ60 61 x2) σ60) (fun r130 σ130 => if r130 = 2 then B_M_sits_142 k2 x1 x2 x2 5 σ130 else B_M_sits_141 k2 x1 x2 x2 σ130))) else bnd (f_M_asks x2 σ60) (fun _ σ150 => k2 (x2 + 1) σ150))
set_option maxHeartbeats 4000000 in
set_option maxRecDepth 100000 in
theorem w_M_sits_53 (C : Cx g p s m args meth c A 4 cX12_sits yX12_sits.cls) (hr : meth.sig.returnType = none)  {res : Int32 × CS}  (x1 : Int32) (x2 : Int32) (z0 : Int32) {k2 : Int32 → CS → Option (Int32 × CS)} (hk2 : ∀ (x2 : Int32) (σ : CS), k2 x2 σ = some res → NMV g p l e s m args below meth c A 7 188 4 am Rr res σ [(0, .ref (am 112)), (1, .int x1), (2, .int x2)] 2 []) (σ : CS) (h : B_M_sits_53 k2 x1 x2 z0 σ = some res) : NMV g p l e s m args below meth c A 7 188 4 am Rr res σ [(0, .ref (am 112)), (1, .int x1), (2, .int x2)] 53 [.int z0] := by
  unfold B_M_sits_53 at h
  refine nw_istore_n (lv' := [(3, .int z0), (0, .ref (am 112)), (1, .int x1), (2, .int x2)]) C dX12_sits_53 rfl (by decide) rfl ?_
  refine nw_iload_n C dX12_sits_54 rfl 0 rfl ?_
  refine nw_if_eq (tgt := 153) C dX12_sits_55 (by decide) h (fun _ h => ?_) (fun _ h => ?_)
  · refine nw_iinc (lv' := [(2, .int (x2 + 1)), (3, .int z0), (0, .ref (am 112)), (1, .int x1)]) C (x2 + 1) dX12_sits_153 3 rfl rfl (by decide) rfl ?_
    refine nw_goto (tgt := 2) C dX12_sits_156 (by decide) ?_
    exact nw_lv (lv' := [(0, .ref (am 112)), (1, .int x1), (2, .int (x2 + 1))]) [2, 3, 0] rfl (hk2 (x2 + 1) _ h)
  · refine nw_aload_n C dX12_sits_58 rfl 1 rfl ?_
    refine nw_iload_n C dX12_sits_59 rfl 3 rfl ?_
    refine nm_callVI (q0 := 0) (As := [.int x2]) (rest := []) C h (fun _ _ e => c_M_isAnswered e) tw_2267 kv_X12_isAnswered ml_O rfl ⟨Nat.le_of_ble_eq_true rfl, Nat.le_of_ble_eq_true rfl⟩ rfl dX12_sits_60 rfl (Nat.le_of_ble_eq_true rfl) (fun r60 σ60 h => ?_)
    refine nw_if_ne (tgt := 69) C dX12_sits_63 (by decide) h (fun _ h => ?_) (fun _ h => ?_)
    · refine nw_goto (tgt := 153) C dX12_sits_66 (by decide) ?_
      refine nw_iinc (lv' := [(2, .int (x2 + 1)), (3, .int z0), (0, .ref (am 112)), (1, .int x1)]) C (x2 + 1) dX12_sits_153 3 rfl rfl (by decide) rfl ?_
      refine nw_goto (tgt := 2) C dX12_sits_156 (by decide) ?_
      exact nw_lv (lv' := [(0, .ref (am 112)), (1, .int x1), (2, .int (x2 + 1))]) [2, 3, 0] rfl (hk2 (x2 + 1) _ h)
    · refine nw_iload_n C dX12_sits_69 rfl 2 rfl ?_
      refine nw_if_ne (tgt := 107) C dX12_sits_70 (by decide) h (fun _ h => ?_) (fun _ h => ?_)
      · refine nw_aload_n C dX12_sits_73 rfl 1 rfl ?_
        refine nw_iload_n C dX12_sits_74 rfl 3 rfl ?_
        refine nw_aload_n C dX12_sits_75 rfl 1 rfl ?_
        refine nw_get (v := .ref (am 46)) C in_X12 0 ml_O rfl 46 (by decide) tw_1619 rfl mf_46 dX12_sits_76 ?_
        refine nw_aload_n C dX12_sits_79 rfl 1 rfl ?_
        refine nw_get (v := .ref (am 62)) C in_X12 0 ml_O rfl 62 (by decide) tw_1635 rfl mf_62 dX12_sits_80 ?_
        refine nw_iload_n C dX12_sits_83 rfl 3 rfl ?_
        refine nw_iald C 37 ml_62 dX12_sits_84 h (fun h => ?_)
        refine nw_iald C 27 ml_46 dX12_sits_85 h (fun h => ?_)
        refine nw_aload_n C dX12_sits_86 rfl 1 rfl ?_
        refine nw_get (v := .ref (am 67)) C in_X12 0 ml_O rfl 67 (by decide) tw_1640 rfl mf_67 dX12_sits_87 ?_
        refine nw_iload_n C dX12_sits_90 rfl 3 rfl ?_
        refine nw_iald C 42 ml_67 dX12_sits_91 h (fun h => ?_)
        refine nw_iadd C dX12_sits_92 ?_
        refine nw_if_gt (tgt := 100) C dX12_sits_93 (by decide) h (fun _ h => ?_) (fun _ h => ?_)
        · refine nw_iconst (v := 1) C dX12_sits_100 (by decide) ?_
          exact nw_lv (lv' := [(0, .ref (am 112)), (1, .int x1), (2, .int x2)]) [1, 2, 3] rfl (w_M_sits_101 C hr x1 x2 x2 1 hk2 _ h)
        · refine nw_iconst (v := 5) C dX12_sits_96 (by decide) ?_
          refine nw_goto (tgt := 101) C dX12_sits_97 (by decide) ?_
          exact nw_lv (lv' := [(0, .ref (am 112)), (1, .int x1), (2, .int x2)]) [1, 2, 3] rfl (w_M_sits_101 C hr x1 x2 x2 5 hk2 _ h)
      · refine nw_iload_n C dX12_sits_107 rfl 2 rfl ?_
        refine nw_iconst (v := 1) C dX12_sits_108 (by decide) ?_
        refine nw_icmp_ne (tgt := 148) C dX12_sits_109 (by decide) h (fun _ h => ?_) (fun _ h => ?_)
        · refine nw_aload_n C dX12_sits_112 rfl 1 rfl ?_
          refine nw_iload_n C dX12_sits_113 rfl 3 rfl ?_
          refine nw_aload_n C dX12_sits_114 rfl 1 rfl ?_
          refine nw_get (v := .ref (am 67)) C in_X12 0 ml_O rfl 67 (by decide) tw_1640 rfl mf_67 dX12_sits_115 ?_
          refine nw_iload_n C dX12_sits_118 rfl 3 rfl ?_
          refine nw_iald C 42 ml_67 dX12_sits_119 h (fun h => ?_)
          refine nw_if_gt (tgt := 141) C dX12_sits_120 (by decide) h (fun _ h => ?_) (fun _ h => ?_)
          · exact nw_lv (lv' := [(0, .ref (am 112)), (1, .int x1), (2, .int x2)]) [1, 2, 3] rfl (w_M_sits_141 C hr x1 x2 x2 hk2 _ h)
          · refine nw_aload_n C dX12_sits_123 rfl 1 rfl ?_
            refine nw_aload_n C dX12_sits_124 rfl 1 rfl ?_
            refine nw_get (v := .ref (am 61)) C in_X12 0 ml_O rfl 61 (by decide) tw_1634 rfl mf_61 dX12_sits_125 ?_
            refine nw_iload_n C dX12_sits_128 rfl 3 rfl ?_
            refine nw_iald C 36 ml_61 dX12_sits_129 h (fun h => ?_)
            refine nm_callVI (q0 := 0) (As := [.int (rd σ60 61 x2)]) (rest := [.int x2, .ref (am 112)]) C h (fun _ _ e => c_M_deedPlace e) tw_2216 kv_X12_deedPlace ml_O rfl ⟨Nat.le_of_ble_eq_true rfl, Nat.le_of_ble_eq_true rfl⟩ rfl dX12_sits_130 rfl (Nat.le_of_ble_eq_true rfl) (fun r130 σ130 h => ?_)
            refine nw_iconst (v := 2) C dX12_sits_133 (by decide) ?_
            refine nw_icmp_ne (tgt := 141) C dX12_sits_134 (by decide) h (fun _ h => ?_) (fun _ h => ?_)
            · refine nw_iconst (v := 5) C dX12_sits_137 (by decide) ?_
              refine nw_goto (tgt := 142) C dX12_sits_138 (by decide) ?_
              exact nw_lv (lv' := [(0, .ref (am 112)), (1, .int x1), (2, .int x2)]) [1, 2, 3] rfl (w_M_sits_142 C hr x1 x2 x2 5 hk2 _ h)
            · exact nw_lv (lv' := [(0, .ref (am 112)), (1, .int x1), (2, .int x2)]) [1, 2, 3] rfl (w_M_sits_141 C hr x1 x2 x2 hk2 _ h)
        · refine nw_aload_n C dX12_sits_148 rfl 1 rfl ?_
          refine nw_iload_n C dX12_sits_149 rfl 3 rfl ?_
          refine nm_callVV (q0 := 0) (As := [.int x2]) (rest := []) C h (fun _ _ e => c_M_asks e) tw_2275 kv_X12_asks ml_O rfl ⟨Nat.le_of_ble_eq_true rfl, Nat.le_of_ble_eq_true rfl⟩ rfl dX12_sits_150 rfl (Nat.le_of_ble_eq_true rfl) (fun r150 σ150 h => ?_)
          refine nw_iinc (lv' := [(2, .int (x2 + 1)), (3, .int z0), (0, .ref (am 112)), (1, .int x1)]) C (x2 + 1) dX12_sits_153 3 rfl rfl (by decide) rfl ?_
          refine nw_goto (tgt := 2) C dX12_sits_156 (by decide) ?_
          exact nw_lv (lv' := [(0, .ref (am 112)), (1, .int x1), (2, .int (x2 + 1))]) [2, 3, 0] rfl (hk2 (x2 + 1) _ h)
def B_M_sits_52 (k2 : Int32 → CS → Option (Int32 × CS)) (x1 : Int32) (x2 : Int32) (σ : CS) : Option (Int32 × CS) := B_M_sits_53 k2 x1 x2 0 σ
set_option maxHeartbeats 4000000 in
set_option maxRecDepth 100000 in
theorem w_M_sits_52 (C : Cx g p s m args meth c A 4 cX12_sits yX12_sits.cls) (hr : meth.sig.returnType = none)  {res : Int32 × CS}  (x1 : Int32) (x2 : Int32) {k2 : Int32 → CS → Option (Int32 × CS)} (hk2 : ∀ (x2 : Int32) (σ : CS), k2 x2 σ = some res → NMV g p l e s m args below meth c A 7 188 4 am Rr res σ [(0, .ref (am 112)), (1, .int x1), (2, .int x2)] 2 []) (σ : CS) (h : B_M_sits_52 k2 x1 x2 σ = some res) : NMV g p l e s m args below meth c A 7 188 4 am Rr res σ [(0, .ref (am 112)), (1, .int x1), (2, .int x2)] 52 [] := by
  unfold B_M_sits_52 at h
  refine nw_iconst (v := 0) C dX12_sits_52 (by decide) ?_
  exact nw_lv (lv' := [(0, .ref (am 112)), (1, .int x1), (2, .int x2)]) [0, 1, 2] rfl (w_M_sits_53 C hr x1 x2 0 hk2 _ h)
def B_M_sits_33 (k2 : Int32 → CS → Option (Int32 × CS)) (x1 : Int32) (x2 : Int32) (σ : CS) : Option (Int32 × CS) := if x1 = 2 then gix x2 40 (if (rd σ 65 x2) = 4 then B_M_sits_53 k2 x1 x2 1 σ else B_M_sits_52 k2 x1 x2 σ) else B_M_sits_52 k2 x1 x2 σ
set_option maxHeartbeats 4000000 in
set_option maxRecDepth 100000 in
theorem w_M_sits_33 (C : Cx g p s m args meth c A 4 cX12_sits yX12_sits.cls) (hr : meth.sig.returnType = none)  {res : Int32 × CS}  (x1 : Int32) (x2 : Int32) {k2 : Int32 → CS → Option (Int32 × CS)} (hk2 : ∀ (x2 : Int32) (σ : CS), k2 x2 σ = some res → NMV g p l e s m args below meth c A 7 188 4 am Rr res σ [(0, .ref (am 112)), (1, .int x1), (2, .int x2)] 2 []) (σ : CS) (h : B_M_sits_33 k2 x1 x2 σ = some res) : NMV g p l e s m args below meth c A 7 188 4 am Rr res σ [(0, .ref (am 112)), (1, .int x1), (2, .int x2)] 33 [] := by
  unfold B_M_sits_33 at h
  refine nw_iload_n C dX12_sits_33 rfl 1 rfl ?_
  refine nw_iconst (v := 2) C dX12_sits_34 (by decide) ?_
  refine nw_icmp_ne (tgt := 52) C dX12_sits_35 (by decide) h (fun _ h => ?_) (fun _ h => ?_)
  · refine nw_aload_n C dX12_sits_38 rfl 0 rfl ?_
    refine nw_get (v := .ref (am 65)) C in_X12 0 ml_O rfl 65 (by decide) tw_1638 rfl mf_65 dX12_sits_39 ?_
    refine nw_iload_n C dX12_sits_42 rfl 2 rfl ?_
    refine nw_iald C 40 ml_65 dX12_sits_43 h (fun h => ?_)
    refine nw_iconst (v := 4) C dX12_sits_44 (by decide) ?_
    refine nw_icmp_ne (tgt := 52) C dX12_sits_45 (by decide) h (fun _ h => ?_) (fun _ h => ?_)
    · refine nw_iconst (v := 1) C dX12_sits_48 (by decide) ?_
      refine nw_goto (tgt := 53) C dX12_sits_49 (by decide) ?_
      exact nw_lv (lv' := [(0, .ref (am 112)), (1, .int x1), (2, .int x2)]) [0, 1, 2] rfl (w_M_sits_53 C hr x1 x2 1 hk2 _ h)
    · exact nw_lv (lv' := [(0, .ref (am 112)), (1, .int x1), (2, .int x2)]) [0, 1, 2] rfl (w_M_sits_52 C hr x1 x2 hk2 _ h)
  · exact nw_lv (lv' := [(0, .ref (am 112)), (1, .int x1), (2, .int x2)]) [0, 1, 2] rfl (w_M_sits_52 C hr x1 x2 hk2 _ h)
def L_M_sits_2  (x1 : Int32) : Nat → Int32 → CS → Option (Int32 × CS)
  | 0, _, _ => none
  | n + 1, x2, σ => if (σ.1 60) ≤ x2 then some (0, σ) else gix x2 40 (if (rd σ 65 x2) = x1 then gix x2 40 (if (rd σ 66 x2) < (σ.1 1) then B_M_sits_53 (L_M_sits_2 x1 n) x1 x2 1 σ else B_M_sits_33 (L_M_sits_2 x1 n) x1 x2 σ) else B_M_sits_33 (L_M_sits_2 x1 n) x1 x2 σ)
set_option maxHeartbeats 4000000 in
set_option maxRecDepth 100000 in
theorem w_M_sits_2 (C : Cx g p s m args meth c A 4 cX12_sits yX12_sits.cls) (hr : meth.sig.returnType = none)  {res : Int32 × CS}  (x1 : Int32)  : ∀ (n : Nat) (x2 : Int32) (σ : CS), L_M_sits_2 x1 n x2 σ = some res → NMV g p l e s m args below meth c A 7 188 4 am Rr res σ [(0, .ref (am 112)), (1, .int x1), (2, .int x2)] 2 [] := by
  intro n
  induction n with
  | zero =>
    intro x2 σ h
    exact absurd (show (none : Option (Int32 × CS)) = some res from h) (by intro h9; cases h9)
  | succ n ih =>
    intro x2 σ h
    rw [L_M_sits_2] at h
    refine nw_iload_n C dX12_sits_2 rfl 2 rfl ?_
    refine nw_aload_n C dX12_sits_3 rfl 0 rfl ?_
    refine nw_get (v := .int (σ.1 60)) C in_X12 0 ml_O rfl 60 (by decide) tw_1633 rfl mf_60 dX12_sits_4 ?_
    refine nw_icmp_ge (tgt := 159) C dX12_sits_7 (by decide) h (fun _ h => ?_) (fun _ h => ?_)
    · exact nm_vret C hr dX12_sits_159 h
    · refine nw_aload_n C dX12_sits_10 rfl 0 rfl ?_
      refine nw_get (v := .ref (am 65)) C in_X12 0 ml_O rfl 65 (by decide) tw_1638 rfl mf_65 dX12_sits_11 ?_
      refine nw_iload_n C dX12_sits_14 rfl 2 rfl ?_
      refine nw_iald C 40 ml_65 dX12_sits_15 h (fun h => ?_)
      refine nw_iload_n C dX12_sits_16 rfl 1 rfl ?_
      refine nw_icmp_ne (tgt := 33) C dX12_sits_17 (by decide) h (fun _ h => ?_) (fun _ h => ?_)
      · refine nw_aload_n C dX12_sits_20 rfl 0 rfl ?_
        refine nw_get (v := .ref (am 66)) C in_X12 0 ml_O rfl 66 (by decide) tw_1639 rfl mf_66 dX12_sits_21 ?_
        refine nw_iload_n C dX12_sits_24 rfl 2 rfl ?_
        refine nw_iald C 41 ml_66 dX12_sits_25 h (fun h => ?_)
        refine nw_aload_n C dX12_sits_26 rfl 0 rfl ?_
        refine nw_get (v := .int (σ.1 1)) C in_X12 0 ml_O rfl 1 (by decide) tw_1574 rfl mf_1 dX12_sits_27 ?_
        refine nw_icmp_lt (tgt := 48) C dX12_sits_30 (by decide) h (fun _ h => ?_) (fun _ h => ?_)
        · refine nw_iconst (v := 1) C dX12_sits_48 (by decide) ?_
          refine nw_goto (tgt := 53) C dX12_sits_49 (by decide) ?_
          exact nw_lv (lv' := [(0, .ref (am 112)), (1, .int x1), (2, .int x2)]) [0, 1, 2] rfl (w_M_sits_53 C hr x1 x2 1 ih _ h)
        · exact nw_lv (lv' := [(0, .ref (am 112)), (1, .int x1), (2, .int x2)]) [0, 1, 2] rfl (w_M_sits_33 C hr x1 x2 ih _ h)
      · exact nw_lv (lv' := [(0, .ref (am 112)), (1, .int x1), (2, .int x2)]) [0, 1, 2] rfl (w_M_sits_33 C hr x1 x2 ih _ h)
def f_M_sits (p0 : Int32) (σ : CS) : Option (Int32 × CS) := L_M_sits_2 p0 FU 0 σ
set_option maxHeartbeats 4000000 in
set_option maxRecDepth 100000 in
theorem c_M_sits {l : Launch} {g : EG} {am : Nat → Nat} {Rr : va_W} {σ σ' : CS} {r : Int32} {p0 : Int32}  (h : f_M_sits p0 σ = some (r, σ')) : CmV l g yX12_sits (.code yX12_sits cX12_sits 4 none) 7 188 am Rr σ [.ref (am 112), .int p0] r σ' := by
  refine Ct.of rfl (by decide) (Nat.le_of_ble_eq_true rfl) ?_
  intro p e s m args below meth c A C hr
  show NMV g p l e s m args below meth c A 7 188 4 am Rr (r, σ') σ [(0, .ref (am 112)), (1, .int p0)] 0 []
  unfold f_M_sits at h
  refine nw_iconst (v := 0) C dX12_sits_0 (by decide) ?_
  refine nw_istore_n (lv' := [(2, .int 0), (0, .ref (am 112)), (1, .int p0)]) C dX12_sits_1 rfl (by decide) rfl ?_
  exact nw_lv (lv' := [(0, .ref (am 112)), (1, .int p0), (2, .int 0)]) [1, 2, 0] rfl (w_M_sits_2 C hr p0 FU 0 _ h)
theorem dX12_wait_0 : decode cX12_wait 0 = .ok (.aload_n 0, 1) := by decide +kernel
theorem dX12_wait_1 : decode cX12_wait 1 = .ok (.iconst 0, 1) := by decide +kernel
theorem dX12_wait_2 : decode cX12_wait 2 = .ok (.putfield 253, 3) := by decide +kernel
theorem dX12_wait_5 : decode cX12_wait 5 = .ok (.aload_n 0, 1) := by decide +kernel
theorem dX12_wait_6 : decode cX12_wait 6 = .ok (.iload_n 1, 1) := by decide +kernel
theorem dX12_wait_7 : decode cX12_wait 7 = .ok (.iconst 0, 1) := by decide +kernel
theorem dX12_wait_8 : decode cX12_wait 8 = .ok (.sipush 4000, 3) := by decide +kernel
theorem dX12_wait_11 : decode cX12_wait 11 = .ok (.invokestatic 257, 3) := by decide +kernel
theorem dX12_wait_14 : decode cX12_wait 14 = .ok (.ifCond .ne 7, 3) := by decide +kernel
theorem dX12_wait_17 : decode cX12_wait 17 = .ok (.iconst 1, 1) := by decide +kernel
theorem dX12_wait_18 : decode cX12_wait 18 = .ok (.goto 4, 3) := by decide +kernel
theorem dX12_wait_21 : decode cX12_wait 21 = .ok (.iconst 0, 1) := by decide +kernel
theorem dX12_wait_22 : decode cX12_wait 22 = .ok (.iconst 1, 1) := by decide +kernel
theorem dX12_wait_23 : decode cX12_wait 23 = .ok (.invokevirtual 265, 3) := by decide +kernel
theorem dX12_wait_26 : decode cX12_wait 26 = .ok (.ifCond .ne 28, 3) := by decide +kernel
theorem dX12_wait_29 : decode cX12_wait 29 = .ok (.aload_n 0, 1) := by decide +kernel
theorem dX12_wait_30 : decode cX12_wait 30 = .ok (.aload_n 0, 1) := by decide +kernel
theorem dX12_wait_31 : decode cX12_wait 31 = .ok (.getfield 513, 3) := by decide +kernel
theorem dX12_wait_34 : decode cX12_wait 34 = .ok (.iload_n 1, 1) := by decide +kernel
theorem dX12_wait_35 : decode cX12_wait 35 = .ok (.iadd, 1) := by decide +kernel
theorem dX12_wait_36 : decode cX12_wait 36 = .ok (.ldc_w 256, 3) := by decide +kernel
theorem dX12_wait_39 : decode cX12_wait 39 = .ok (.if_icmp .le 7, 3) := by decide +kernel
theorem dX12_wait_42 : decode cX12_wait 42 = .ok (.iconst 1, 1) := by decide +kernel
theorem dX12_wait_43 : decode cX12_wait 43 = .ok (.goto 4, 3) := by decide +kernel
theorem dX12_wait_46 : decode cX12_wait 46 = .ok (.iconst 0, 1) := by decide +kernel
theorem dX12_wait_47 : decode cX12_wait 47 = .ok (.iconst 2, 1) := by decide +kernel
theorem dX12_wait_48 : decode cX12_wait 48 = .ok (.invokevirtual 265, 3) := by decide +kernel
theorem dX12_wait_51 : decode cX12_wait 51 = .ok (.ifCond .eq 5, 3) := by decide +kernel
theorem dX12_wait_54 : decode cX12_wait 54 = .ok (.iconst 0, 1) := by decide +kernel
theorem dX12_wait_55 : decode cX12_wait 55 = .ok (.ireturn, 1) := by decide +kernel
theorem dX12_wait_56 : decode cX12_wait 56 = .ok (.iconst 0, 1) := by decide +kernel
theorem dX12_wait_57 : decode cX12_wait 57 = .ok (.istore_n 2, 1) := by decide +kernel
theorem dX12_wait_58 : decode cX12_wait 58 = .ok (.iload_n 2, 1) := by decide +kernel
theorem dX12_wait_59 : decode cX12_wait 59 = .ok (.iload_n 1, 1) := by decide +kernel
theorem dX12_wait_60 : decode cX12_wait 60 = .ok (.if_icmp .ge 54, 3) := by decide +kernel
theorem dX12_wait_63 : decode cX12_wait 63 = .ok (.aload_n 0, 1) := by decide +kernel
theorem dX12_wait_64 : decode cX12_wait 64 = .ok (.dup, 1) := by decide +kernel
theorem dX12_wait_65 : decode cX12_wait 65 = .ok (.getfield 513, 3) := by decide +kernel
theorem dX12_wait_68 : decode cX12_wait 68 = .ok (.iconst 1, 1) := by decide +kernel
theorem dX12_wait_69 : decode cX12_wait 69 = .ok (.iadd, 1) := by decide +kernel
theorem dX12_wait_70 : decode cX12_wait 70 = .ok (.putfield 513, 3) := by decide +kernel
theorem dX12_wait_73 : decode cX12_wait 73 = .ok (.iconst 0, 1) := by decide +kernel
theorem dX12_wait_74 : decode cX12_wait 74 = .ok (.istore_n 3, 1) := by decide +kernel
theorem dX12_wait_75 : decode cX12_wait 75 = .ok (.iload_n 3, 1) := by decide +kernel
theorem dX12_wait_76 : decode cX12_wait 76 = .ok (.iconst 3, 1) := by decide +kernel
theorem dX12_wait_77 : decode cX12_wait 77 = .ok (.if_icmp .ge 31, 3) := by decide +kernel
theorem dX12_wait_80 : decode cX12_wait 80 = .ok (.aload_n 0, 1) := by decide +kernel
theorem dX12_wait_81 : decode cX12_wait 81 = .ok (.getfield 513, 3) := by decide +kernel
theorem dX12_wait_84 : decode cX12_wait 84 = .ok (.aload_n 0, 1) := by decide +kernel
theorem dX12_wait_85 : decode cX12_wait 85 = .ok (.aload_n 0, 1) := by decide +kernel
theorem dX12_wait_86 : decode cX12_wait 86 = .ok (.getfield 513, 3) := by decide +kernel
theorem dX12_wait_89 : decode cX12_wait 89 = .ok (.iload_n 3, 1) := by decide +kernel
theorem dX12_wait_90 : decode cX12_wait 90 = .ok (.invokevirtual 500, 3) := by decide +kernel
theorem dX12_wait_93 : decode cX12_wait 93 = .ok (.irem, 1) := by decide +kernel
theorem dX12_wait_94 : decode cX12_wait 94 = .ok (.ifCond .ne 8, 3) := by decide +kernel
theorem dX12_wait_97 : decode cX12_wait 97 = .ok (.aload_n 0, 1) := by decide +kernel
theorem dX12_wait_98 : decode cX12_wait 98 = .ok (.iload_n 3, 1) := by decide +kernel
theorem dX12_wait_99 : decode cX12_wait 99 = .ok (.invokevirtual 594, 3) := by decide +kernel
theorem dX12_wait_102 : decode cX12_wait 102 = .ok (.iinc 3 1, 3) := by decide +kernel
theorem dX12_wait_105 : decode cX12_wait 105 = .ok (.goto (-30), 3) := by decide +kernel
theorem dX12_wait_108 : decode cX12_wait 108 = .ok (.iinc 2 1, 3) := by decide +kernel
theorem dX12_wait_111 : decode cX12_wait 111 = .ok (.goto (-53), 3) := by decide +kernel
theorem dX12_wait_114 : decode cX12_wait 114 = .ok (.aload_n 0, 1) := by decide +kernel
theorem dX12_wait_115 : decode cX12_wait 115 = .ok (.getfield 513, 3) := by decide +kernel
theorem dX12_wait_118 : decode cX12_wait 118 = .ok (.ireturn, 1) := by decide +kernel
def L_M_wait_75 (k58 : Int32 → CS → Option (Int32 × CS)) (x1 : Int32) (x2 : Int32) : Nat → Int32 → CS → Option (Int32 × CS)
  | 0, _, _ => none
  | n + 1, x3, σ => if 3 ≤ x3 then k58 (x2 + 1) σ else bnd (f_M_ruleOf (σ.1 1) x3 σ) (fun r90 σ90 => grd (¬ r90 = 0) (if ((σ.1 1) - (σ.1 1) / r90 * r90) = 0 then bnd (f_M_sits x3 σ90) (fun _ σ99 => (L_M_wait_75 k58 x1 x2 n) (x3 + 1) σ99) else (L_M_wait_75 k58 x1 x2 n) (x3 + 1) σ90))
set_option maxHeartbeats 4000000 in
set_option maxRecDepth 100000 in
theorem w_M_wait_75 (C : Cx g p s m args meth c A 4 cX12_wait yX12_wait.cls) (hr : meth.sig.returnType = (some .int))  {res : Int32 × CS}  (x1 : Int32) (x2 : Int32) {k58 : Int32 → CS → Option (Int32 × CS)} (hk58 : ∀ (x2 : Int32) (σ : CS), k58 x2 σ = some res → NMI g p l e s m args below meth c A 8 211 4 am Rr res σ [(0, .ref (am 112)), (1, .int x1), (2, .int x2)] 58 []) : ∀ (n : Nat) (x3 : Int32) (σ : CS), L_M_wait_75 k58 x1 x2 n x3 σ = some res → NMI g p l e s m args below meth c A 8 211 4 am Rr res σ [(0, .ref (am 112)), (1, .int x1), (2, .int x2), (3, .int x3)] 75 [] := by
  intro n
  induction n with
  | zero =>
    intro x3 σ h
    exact absurd (show (none : Option (Int32 × CS)) = some res from h) (by intro h9; cases h9)
  | succ n ih =>
    intro x3 σ h
    rw [L_M_wait_75] at h
    refine nw_iload_n C dX12_wait_75 rfl 3 rfl ?_
    refine nw_iconst (v := 3) C dX12_wait_76 (by decide) ?_
    refine nw_icmp_ge (tgt := 108) C dX12_wait_77 (by decide) h (fun _ h => ?_) (fun _ h => ?_)
    · refine nw_iinc (lv' := [(2, .int (x2 + 1)), (0, .ref (am 112)), (1, .int x1), (3, .int x3)]) C (x2 + 1) dX12_wait_108 2 rfl rfl (by decide) rfl ?_
      refine nw_goto (tgt := 58) C dX12_wait_111 (by decide) ?_
      exact nw_lv (lv' := [(0, .ref (am 112)), (1, .int x1), (2, .int (x2 + 1))]) [1, 2, 0] rfl (hk58 (x2 + 1) _ h)
    · refine nw_aload_n C dX12_wait_80 rfl 0 rfl ?_
      refine nw_get (v := .int (σ.1 1)) C in_X12 0 ml_O rfl 1 (by decide) tw_1574 rfl mf_1 dX12_wait_81 ?_
      refine nw_aload_n C dX12_wait_84 rfl 0 rfl ?_
      refine nw_aload_n C dX12_wait_85 rfl 0 rfl ?_
      refine nw_get (v := .int (σ.1 1)) C in_X12 0 ml_O rfl 1 (by decide) tw_1574 rfl mf_1 dX12_wait_86 ?_
      refine nw_iload_n C dX12_wait_89 rfl 3 rfl ?_
      refine nm_callVI (q0 := 0) (As := [.int (σ.1 1), .int x3]) (rest := [.int (σ.1 1)]) C h (fun _ _ e => c_M_ruleOf e) tw_2159 kv_X12_ruleOf ml_O rfl ⟨Nat.le_of_ble_eq_true rfl, Nat.le_of_ble_eq_true rfl⟩ rfl dX12_wait_90 rfl (Nat.le_of_ble_eq_true rfl) (fun r90 σ90 h => ?_)
      refine nw_irem C dX12_wait_93 h (fun h => ?_)
      refine nw_if_ne (tgt := 102) C dX12_wait_94 (by decide) h (fun _ h => ?_) (fun _ h => ?_)
      · refine nw_aload_n C dX12_wait_97 rfl 0 rfl ?_
        refine nw_iload_n C dX12_wait_98 rfl 3 rfl ?_
        refine nm_callVV (q0 := 0) (As := [.int x3]) (rest := []) C h (fun _ _ e => c_M_sits e) tw_2263 kv_X12_sits ml_O rfl ⟨Nat.le_of_ble_eq_true rfl, Nat.le_of_ble_eq_true rfl⟩ rfl dX12_wait_99 rfl (Nat.le_of_ble_eq_true rfl) (fun r99 σ99 h => ?_)
        refine nw_iinc (lv' := [(3, .int (x3 + 1)), (0, .ref (am 112)), (1, .int x1), (2, .int x2)]) C (x3 + 1) dX12_wait_102 3 rfl rfl (by decide) rfl ?_
        refine nw_goto (tgt := 75) C dX12_wait_105 (by decide) ?_
        exact nw_lv (lv' := [(0, .ref (am 112)), (1, .int x1), (2, .int x2), (3, .int (x3 + 1))]) [1, 2, 3, 0] rfl (ih (x3 + 1) _ h)
      · refine nw_iinc (lv' := [(3, .int (x3 + 1)), (0, .ref (am 112)), (1, .int x1), (2, .int x2)]) C (x3 + 1) dX12_wait_102 3 rfl rfl (by decide) rfl ?_
        refine nw_goto (tgt := 75) C dX12_wait_105 (by decide) ?_
        exact nw_lv (lv' := [(0, .ref (am 112)), (1, .int x1), (2, .int x2), (3, .int (x3 + 1))]) [1, 2, 3, 0] rfl (ih (x3 + 1) _ h)
def L_M_wait_58  (x1 : Int32) : Nat → Int32 → CS → Option (Int32 × CS)
  | 0, _, _ => none
  | n + 1, x2, σ => if x1 ≤ x2 then some ((σ.1 1), σ) else L_M_wait_75 (L_M_wait_58 x1 n) x1 x2 FU 0 (sF σ 1 ((σ.1 1) + 1))
set_option maxHeartbeats 4000000 in
set_option maxRecDepth 100000 in
theorem w_M_wait_58 (C : Cx g p s m args meth c A 4 cX12_wait yX12_wait.cls) (hr : meth.sig.returnType = (some .int))  {res : Int32 × CS}  (x1 : Int32)  : ∀ (n : Nat) (x2 : Int32) (σ : CS), L_M_wait_58 x1 n x2 σ = some res → NMI g p l e s m args below meth c A 8 211 4 am Rr res σ [(0, .ref (am 112)), (1, .int x1), (2, .int x2)] 58 [] := by
  intro n
  induction n with
  | zero =>
    intro x2 σ h
    exact absurd (show (none : Option (Int32 × CS)) = some res from h) (by intro h9; cases h9)
  | succ n ih =>
    intro x2 σ h
    rw [L_M_wait_58] at h
    refine nw_iload_n C dX12_wait_58 rfl 2 rfl ?_
    refine nw_iload_n C dX12_wait_59 rfl 1 rfl ?_
    refine nw_icmp_ge (tgt := 114) C dX12_wait_60 (by decide) h (fun _ h => ?_) (fun _ h => ?_)
    · refine nw_aload_n C dX12_wait_114 rfl 0 rfl ?_
      refine nw_get (v := .int (σ.1 1)) C in_X12 0 ml_O rfl 1 (by decide) tw_1574 rfl mf_1 dX12_wait_115 ?_
      exact nm_iret C hr dX12_wait_118 h
    · refine nw_aload_n C dX12_wait_63 rfl 0 rfl ?_
      refine nw_dup C dX12_wait_64 rfl ?_
      refine nw_get (v := .int (σ.1 1)) C in_X12 0 ml_O rfl 1 (by decide) tw_1574 rfl mf_1 dX12_wait_65 ?_
      refine nw_iconst (v := 1) C dX12_wait_68 (by decide) ?_
      refine nw_iadd C dX12_wait_69 ?_
      refine nw_put (ty := .int) C in_X12 0 ml_O rfl 1 (by decide) tyX12 tyX12_ok nmX12 tw_1574 rfl rfl (by decide +kernel) rfl rfl (Nat.le_of_ble_eq_true rfl) dX12_wait_70 ms_1 ?_
      refine nw_iconst (v := 0) C dX12_wait_73 (by decide) ?_
      refine nw_istore_n (lv' := [(3, .int 0), (0, .ref (am 112)), (1, .int x1), (2, .int x2)]) C dX12_wait_74 rfl (by decide) rfl ?_
      exact nw_lv (lv' := [(0, .ref (am 112)), (1, .int x1), (2, .int x2), (3, .int 0)]) [1, 2, 3, 0] rfl (w_M_wait_75 C hr x1 x2 ih FU 0 _ h)
def B_M_wait_47   (x1 : Int32) (z1 : Int32) (σ : CS) : Option (Int32 × CS) := bnd (f_M_bad z1 2 σ) (fun r48 σ48 => if r48 = 0 then L_M_wait_58 x1 FU 0 σ48 else some (0, σ48))
set_option maxHeartbeats 4000000 in
set_option maxRecDepth 100000 in
theorem w_M_wait_47 (C : Cx g p s m args meth c A 4 cX12_wait yX12_wait.cls) (hr : meth.sig.returnType = (some .int))  {res : Int32 × CS}   (x1 : Int32) (z1 : Int32)  (σ : CS) (h : B_M_wait_47 x1 z1 σ = some res) : NMI g p l e s m args below meth c A 8 211 4 am Rr res σ [(0, .ref (am 112)), (1, .int x1)] 47 [.int z1, .ref (am 112)] := by
  unfold B_M_wait_47 at h
  refine nw_iconst (v := 2) C dX12_wait_47 (by decide) ?_
  refine nm_callVI (q0 := 0) (As := [.int z1, .int 2]) (rest := []) C h (fun _ _ e => c_M_bad e) tw_1924 kv_X12_bad ml_O rfl ⟨Nat.le_of_ble_eq_true rfl, Nat.le_of_ble_eq_true rfl⟩ rfl dX12_wait_48 rfl (Nat.le_of_ble_eq_true rfl) (fun r48 σ48 h => ?_)
  refine nw_if_eq (tgt := 56) C dX12_wait_51 (by decide) h (fun _ h => ?_) (fun _ h => ?_)
  · refine nw_iconst (v := 0) C dX12_wait_56 (by decide) ?_
    refine nw_istore_n (lv' := [(2, .int 0), (0, .ref (am 112)), (1, .int x1)]) C dX12_wait_57 rfl (by decide) rfl ?_
    exact nw_lv (lv' := [(0, .ref (am 112)), (1, .int x1), (2, .int 0)]) [1, 2, 0] rfl (w_M_wait_58 C hr x1 FU 0 _ h)
  · refine nw_iconst (v := 0) C dX12_wait_54 (by decide) ?_
    exact nm_iret C hr dX12_wait_55 h
def B_M_wait_22   (x1 : Int32) (z1 : Int32) (σ : CS) : Option (Int32 × CS) := bnd (f_M_bad z1 1 σ) (fun r23 σ23 => if r23 = 0 then if ((σ23.1 1) + x1) ≤ 100000 then B_M_wait_47 x1 0 σ23 else B_M_wait_47 x1 1 σ23 else some (0, σ23))
set_option maxHeartbeats 4000000 in
set_option maxRecDepth 100000 in
theorem w_M_wait_22 (C : Cx g p s m args meth c A 4 cX12_wait yX12_wait.cls) (hr : meth.sig.returnType = (some .int))  {res : Int32 × CS}   (x1 : Int32) (z1 : Int32)  (σ : CS) (h : B_M_wait_22 x1 z1 σ = some res) : NMI g p l e s m args below meth c A 8 211 4 am Rr res σ [(0, .ref (am 112)), (1, .int x1)] 22 [.int z1, .ref (am 112)] := by
  unfold B_M_wait_22 at h
  refine nw_iconst (v := 1) C dX12_wait_22 (by decide) ?_
  refine nm_callVI (q0 := 0) (As := [.int z1, .int 1]) (rest := []) C h (fun _ _ e => c_M_bad e) tw_1924 kv_X12_bad ml_O rfl ⟨Nat.le_of_ble_eq_true rfl, Nat.le_of_ble_eq_true rfl⟩ rfl dX12_wait_23 rfl (Nat.le_of_ble_eq_true rfl) (fun r23 σ23 h => ?_)
  refine nw_if_ne (tgt := 54) C dX12_wait_26 (by decide) h (fun _ h => ?_) (fun _ h => ?_)
  · refine nw_aload_n C dX12_wait_29 rfl 0 rfl ?_
    refine nw_aload_n C dX12_wait_30 rfl 0 rfl ?_
    refine nw_get (v := .int (σ23.1 1)) C in_X12 0 ml_O rfl 1 (by decide) tw_1574 rfl mf_1 dX12_wait_31 ?_
    refine nw_iload_n C dX12_wait_34 rfl 1 rfl ?_
    refine nw_iadd C dX12_wait_35 ?_
    refine nw_ldcw (v := 100000) C tw_1939 dX12_wait_36 ?_
    refine nw_icmp_le (tgt := 46) C dX12_wait_39 (by decide) h (fun _ h => ?_) (fun _ h => ?_)
    · refine nw_iconst (v := 0) C dX12_wait_46 (by decide) ?_
      exact nw_lv (lv' := [(0, .ref (am 112)), (1, .int x1)]) [0, 1] rfl (w_M_wait_47 C hr x1 0 _ h)
    · refine nw_iconst (v := 1) C dX12_wait_42 (by decide) ?_
      refine nw_goto (tgt := 47) C dX12_wait_43 (by decide) ?_
      exact nw_lv (lv' := [(0, .ref (am 112)), (1, .int x1)]) [0, 1] rfl (w_M_wait_47 C hr x1 1 _ h)
  · refine nw_iconst (v := 0) C dX12_wait_54 (by decide) ?_
    exact nm_iret C hr dX12_wait_55 h
def f_M_wait (p0 : Int32) (σ : CS) : Option (Int32 × CS) := bnd (f_M_in p0 0 4000 (sF σ 0 0)) (fun r11 σ11 => if r11 = 0 then B_M_wait_22 p0 1 σ11 else B_M_wait_22 p0 0 σ11)
set_option maxHeartbeats 4000000 in
set_option maxRecDepth 100000 in
theorem c_M_wait {l : Launch} {g : EG} {am : Nat → Nat} {Rr : va_W} {σ σ' : CS} {r : Int32} {p0 : Int32}  (h : f_M_wait p0 σ = some (r, σ')) : CmI l g yX12_wait (.code yX12_wait cX12_wait 4 (some .int)) 8 211 am Rr σ [.ref (am 112), .int p0] r σ' := by
  refine Ct.of rfl (by decide) (Nat.le_of_ble_eq_true rfl) ?_
  intro p e s m args below meth c A C hr
  show NMI g p l e s m args below meth c A 8 211 4 am Rr (r, σ') σ [(0, .ref (am 112)), (1, .int p0)] 0 []
  unfold f_M_wait at h
  refine nw_aload_n C dX12_wait_0 rfl 0 rfl ?_
  refine nw_iconst (v := 0) C dX12_wait_1 (by decide) ?_
  refine nw_put (ty := .int) C in_X12 0 ml_O rfl 0 (by decide) tyX12 tyX12_ok nmX12 tw_1573 rfl rfl (by decide +kernel) rfl rfl (Nat.le_of_ble_eq_true rfl) dX12_wait_2 ms_0 ?_
  refine nw_aload_n C dX12_wait_5 rfl 0 rfl ?_
  refine nw_iload_n C dX12_wait_6 rfl 1 rfl ?_
  refine nw_iconst (v := 0) C dX12_wait_7 (by decide) ?_
  refine nw_sipush (v := 4000) C dX12_wait_8 (by decide) ?_
  refine nm_callSI  (As := [.int p0, .int 0, .int 4000]) (rest := [.ref (am 112)]) C h (fun _ _ e => c_M_in e) tw_1918 ks_X12_in ⟨Nat.le_of_ble_eq_true rfl, Nat.le_of_ble_eq_true rfl⟩ rfl dX12_wait_11 rfl (Nat.le_of_ble_eq_true rfl) (fun r11 σ11 h => ?_)
  refine nw_if_ne (tgt := 21) C dX12_wait_14 (by decide) h (fun _ h => ?_) (fun _ h => ?_)
  · refine nw_iconst (v := 1) C dX12_wait_17 (by decide) ?_
    refine nw_goto (tgt := 22) C dX12_wait_18 (by decide) ?_
    exact nw_lv (lv' := [(0, .ref (am 112)), (1, .int p0)]) [0, 1] rfl (w_M_wait_22 C hr p0 1 _ h)
  · refine nw_iconst (v := 0) C dX12_wait_21 (by decide) ?_
    exact nw_lv (lv' := [(0, .ref (am 112)), (1, .int p0)]) [0, 1] rfl (w_M_wait_22 C hr p0 0 _ h)
theorem dX12_claim_0 : decode cX12_claim 0 = .ok (.aload_n 0, 1) := by decide +kernel
theorem dX12_claim_1 : decode cX12_claim 1 = .ok (.iconst 0, 1) := by decide +kernel
theorem dX12_claim_2 : decode cX12_claim 2 = .ok (.putfield 253, 3) := by decide +kernel
theorem dX12_claim_5 : decode cX12_claim 5 = .ok (.aload_n 0, 1) := by decide +kernel
theorem dX12_claim_6 : decode cX12_claim 6 = .ok (.aload_n 0, 1) := by decide +kernel
theorem dX12_claim_7 : decode cX12_claim 7 = .ok (.iload_n 1, 1) := by decide +kernel
theorem dX12_claim_8 : decode cX12_claim 8 = .ok (.invokevirtual 507, 3) := by decide +kernel
theorem dX12_claim_11 : decode cX12_claim 11 = .ok (.ifCond .ne 7, 3) := by decide +kernel
theorem dX12_claim_14 : decode cX12_claim 14 = .ok (.iconst 1, 1) := by decide +kernel
theorem dX12_claim_15 : decode cX12_claim 15 = .ok (.goto 4, 3) := by decide +kernel
theorem dX12_claim_18 : decode cX12_claim 18 = .ok (.iconst 0, 1) := by decide +kernel
theorem dX12_claim_19 : decode cX12_claim 19 = .ok (.iconst 1, 1) := by decide +kernel
theorem dX12_claim_20 : decode cX12_claim 20 = .ok (.invokevirtual 265, 3) := by decide +kernel
theorem dX12_claim_23 : decode cX12_claim 23 = .ok (.ifCond .ne 34, 3) := by decide +kernel
theorem dX12_claim_26 : decode cX12_claim 26 = .ok (.aload_n 0, 1) := by decide +kernel
theorem dX12_claim_27 : decode cX12_claim 27 = .ok (.iload_n 2, 1) := by decide +kernel
theorem dX12_claim_28 : decode cX12_claim 28 = .ok (.iconst 0, 1) := by decide +kernel
theorem dX12_claim_29 : decode cX12_claim 29 = .ok (.iconst 5, 1) := by decide +kernel
theorem dX12_claim_30 : decode cX12_claim 30 = .ok (.invokestatic 257, 3) := by decide +kernel
theorem dX12_claim_33 : decode cX12_claim 33 = .ok (.ifCond .eq 12, 3) := by decide +kernel
theorem dX12_claim_36 : decode cX12_claim 36 = .ok (.iload_n 3, 1) := by decide +kernel
theorem dX12_claim_37 : decode cX12_claim 37 = .ok (.iload 4, 2) := by decide +kernel
theorem dX12_claim_39 : decode cX12_claim 39 = .ok (.invokestatic 261, 3) := by decide +kernel
theorem dX12_claim_42 : decode cX12_claim 42 = .ok (.ifCond .ne 7, 3) := by decide +kernel
theorem dX12_claim_45 : decode cX12_claim 45 = .ok (.iconst 1, 1) := by decide +kernel
theorem dX12_claim_46 : decode cX12_claim 46 = .ok (.goto 4, 3) := by decide +kernel
theorem dX12_claim_49 : decode cX12_claim 49 = .ok (.iconst 0, 1) := by decide +kernel
theorem dX12_claim_50 : decode cX12_claim 50 = .ok (.iconst 2, 1) := by decide +kernel
theorem dX12_claim_51 : decode cX12_claim 51 = .ok (.invokevirtual 265, 3) := by decide +kernel
theorem dX12_claim_54 : decode cX12_claim 54 = .ok (.ifCond .eq 5, 3) := by decide +kernel
theorem dX12_claim_57 : decode cX12_claim 57 = .ok (.iconst 0, 1) := by decide +kernel
theorem dX12_claim_58 : decode cX12_claim 58 = .ok (.ireturn, 1) := by decide +kernel
theorem dX12_claim_59 : decode cX12_claim 59 = .ok (.aload_n 0, 1) := by decide +kernel
theorem dX12_claim_60 : decode cX12_claim 60 = .ok (.getfield 554, 3) := by decide +kernel
theorem dX12_claim_63 : decode cX12_claim 63 = .ok (.bipush 20, 2) := by decide +kernel
theorem dX12_claim_65 : decode cX12_claim 65 = .ok (.if_icmp .ne 5, 3) := by decide +kernel
theorem dX12_claim_68 : decode cX12_claim 68 = .ok (.iconst (-1), 1) := by decide +kernel
theorem dX12_claim_69 : decode cX12_claim 69 = .ok (.ireturn, 1) := by decide +kernel
theorem dX12_claim_70 : decode cX12_claim 70 = .ok (.aload_n 0, 1) := by decide +kernel
theorem dX12_claim_71 : decode cX12_claim 71 = .ok (.getfield 151, 3) := by decide +kernel
theorem dX12_claim_74 : decode cX12_claim 74 = .ok (.aload_n 0, 1) := by decide +kernel
theorem dX12_claim_75 : decode cX12_claim 75 = .ok (.getfield 554, 3) := by decide +kernel
theorem dX12_claim_78 : decode cX12_claim 78 = .ok (.iload_n 1, 1) := by decide +kernel
theorem dX12_claim_79 : decode cX12_claim 79 = .ok (.iastore, 1) := by decide +kernel
theorem dX12_claim_80 : decode cX12_claim 80 = .ok (.aload_n 0, 1) := by decide +kernel
theorem dX12_claim_81 : decode cX12_claim 81 = .ok (.getfield 154, 3) := by decide +kernel
theorem dX12_claim_84 : decode cX12_claim 84 = .ok (.aload_n 0, 1) := by decide +kernel
theorem dX12_claim_85 : decode cX12_claim 85 = .ok (.getfield 554, 3) := by decide +kernel
theorem dX12_claim_88 : decode cX12_claim 88 = .ok (.iload_n 2, 1) := by decide +kernel
theorem dX12_claim_89 : decode cX12_claim 89 = .ok (.iastore, 1) := by decide +kernel
theorem dX12_claim_90 : decode cX12_claim 90 = .ok (.aload_n 0, 1) := by decide +kernel
theorem dX12_claim_91 : decode cX12_claim 91 = .ok (.getfield 157, 3) := by decide +kernel
theorem dX12_claim_94 : decode cX12_claim 94 = .ok (.aload_n 0, 1) := by decide +kernel
theorem dX12_claim_95 : decode cX12_claim 95 = .ok (.getfield 554, 3) := by decide +kernel
theorem dX12_claim_98 : decode cX12_claim 98 = .ok (.iload_n 3, 1) := by decide +kernel
theorem dX12_claim_99 : decode cX12_claim 99 = .ok (.iastore, 1) := by decide +kernel
theorem dX12_claim_100 : decode cX12_claim 100 = .ok (.aload_n 0, 1) := by decide +kernel
theorem dX12_claim_101 : decode cX12_claim 101 = .ok (.getfield 160, 3) := by decide +kernel
theorem dX12_claim_104 : decode cX12_claim 104 = .ok (.aload_n 0, 1) := by decide +kernel
theorem dX12_claim_105 : decode cX12_claim 105 = .ok (.getfield 554, 3) := by decide +kernel
theorem dX12_claim_108 : decode cX12_claim 108 = .ok (.iload 4, 2) := by decide +kernel
theorem dX12_claim_110 : decode cX12_claim 110 = .ok (.iastore, 1) := by decide +kernel
theorem dX12_claim_111 : decode cX12_claim 111 = .ok (.aload_n 0, 1) := by decide +kernel
theorem dX12_claim_112 : decode cX12_claim 112 = .ok (.dup, 1) := by decide +kernel
theorem dX12_claim_113 : decode cX12_claim 113 = .ok (.getfield 554, 3) := by decide +kernel
theorem dX12_claim_116 : decode cX12_claim 116 = .ok (.iconst 1, 1) := by decide +kernel
theorem dX12_claim_117 : decode cX12_claim 117 = .ok (.iadd, 1) := by decide +kernel
theorem dX12_claim_118 : decode cX12_claim 118 = .ok (.putfield 554, 3) := by decide +kernel
theorem dX12_claim_121 : decode cX12_claim 121 = .ok (.aload_n 0, 1) := by decide +kernel
theorem dX12_claim_122 : decode cX12_claim 122 = .ok (.getfield 554, 3) := by decide +kernel
theorem dX12_claim_125 : decode cX12_claim 125 = .ok (.iconst 1, 1) := by decide +kernel
theorem dX12_claim_126 : decode cX12_claim 126 = .ok (.isub, 1) := by decide +kernel
theorem dX12_claim_127 : decode cX12_claim 127 = .ok (.ireturn, 1) := by decide +kernel
def B_M_claim_50   (x1 : Int32) (x2 : Int32) (x3 : Int32) (x4 : Int32) (z1 : Int32) (σ : CS) : Option (Int32 × CS) := bnd (f_M_bad z1 2 σ) (fun r51 σ51 => if r51 = 0 then if (σ51.1 71) = 20 then some ((-1), σ51) else gix (σ51.1 71) 20 (gix (σ51.1 71) 20 (gix (σ51.1 71) 20 (gix (σ51.1 71) 20 (some ((((σ51.1 71) + 1) - 1), (sF (wr (wr (wr (wr σ51 72 (σ51.1 71) x1) 73 (σ51.1 71) x2) 74 (σ51.1 71) x3) 75 (σ51.1 71) x4) 71 ((σ51.1 71) + 1))))))) else some (0, σ51))
set_option maxHeartbeats 4000000 in
set_option maxRecDepth 100000 in
theorem w_M_claim_50 (C : Cx g p s m args meth c A 5 cX12_claim yX12_claim.cls) (hr : meth.sig.returnType = (some .int))  {res : Int32 × CS}   (x1 : Int32) (x2 : Int32) (x3 : Int32) (x4 : Int32) (z1 : Int32)  (σ : CS) (h : B_M_claim_50 x1 x2 x3 x4 z1 σ = some res) : NMI g p l e s m args below meth c A 2 43 5 am Rr res σ [(0, .ref (am 112)), (1, .int x1), (2, .int x2), (3, .int x3), (4, .int x4)] 50 [.int z1, .ref (am 112)] := by
  unfold B_M_claim_50 at h
  refine nw_iconst (v := 2) C dX12_claim_50 (by decide) ?_
  refine nm_callVI (q0 := 0) (As := [.int z1, .int 2]) (rest := []) C h (fun _ _ e => c_M_bad e) tw_1924 kv_X12_bad ml_O rfl ⟨Nat.le_of_ble_eq_true rfl, Nat.le_of_ble_eq_true rfl⟩ rfl dX12_claim_51 rfl (Nat.le_of_ble_eq_true rfl) (fun r51 σ51 h => ?_)
  refine nw_if_eq (tgt := 59) C dX12_claim_54 (by decide) h (fun _ h => ?_) (fun _ h => ?_)
  · refine nw_aload_n C dX12_claim_59 rfl 0 rfl ?_
    refine nw_get (v := .int (σ51.1 71)) C in_X12 0 ml_O rfl 71 (by decide) tw_1644 rfl mf_71 dX12_claim_60 ?_
    refine nw_bipush (v := 20) C dX12_claim_63 (by decide) ?_
    refine nw_icmp_ne (tgt := 70) C dX12_claim_65 (by decide) h (fun _ h => ?_) (fun _ h => ?_)
    · refine nw_iconst (v := (-1)) C dX12_claim_68 (by decide) ?_
      exact nm_iret C hr dX12_claim_69 h
    · refine nw_aload_n C dX12_claim_70 rfl 0 rfl ?_
      refine nw_get (v := .ref (am 72)) C in_X12 0 ml_O rfl 72 (by decide) tw_1645 rfl mf_72 dX12_claim_71 ?_
      refine nw_aload_n C dX12_claim_74 rfl 0 rfl ?_
      refine nw_get (v := .int (σ51.1 71)) C in_X12 0 ml_O rfl 71 (by decide) tw_1644 rfl mf_71 dX12_claim_75 ?_
      refine nw_iload_n C dX12_claim_78 rfl 1 rfl ?_
      refine nw_iast C 46 ml_72 dX12_claim_79 h ms_72 (fun h => ?_)
      refine nw_aload_n C dX12_claim_80 rfl 0 rfl ?_
      refine nw_get (v := .ref (am 73)) C in_X12 0 ml_O rfl 73 (by decide) tw_1646 rfl mf_73 dX12_claim_81 ?_
      refine nw_aload_n C dX12_claim_84 rfl 0 rfl ?_
      refine nw_get (v := .int (σ51.1 71)) C in_X12 0 ml_O rfl 71 (by decide) tw_1644 rfl rfl dX12_claim_85 ?_
      refine nw_iload_n C dX12_claim_88 rfl 2 rfl ?_
      refine nw_iast C 47 ml_73 dX12_claim_89 h ms_73 (fun h => ?_)
      refine nw_aload_n C dX12_claim_90 rfl 0 rfl ?_
      refine nw_get (v := .ref (am 74)) C in_X12 0 ml_O rfl 74 (by decide) tw_1647 rfl mf_74 dX12_claim_91 ?_
      refine nw_aload_n C dX12_claim_94 rfl 0 rfl ?_
      refine nw_get (v := .int (σ51.1 71)) C in_X12 0 ml_O rfl 71 (by decide) tw_1644 rfl rfl dX12_claim_95 ?_
      refine nw_iload_n C dX12_claim_98 rfl 3 rfl ?_
      refine nw_iast C 48 ml_74 dX12_claim_99 h ms_74 (fun h => ?_)
      refine nw_aload_n C dX12_claim_100 rfl 0 rfl ?_
      refine nw_get (v := .ref (am 75)) C in_X12 0 ml_O rfl 75 (by decide) tw_1648 rfl mf_75 dX12_claim_101 ?_
      refine nw_aload_n C dX12_claim_104 rfl 0 rfl ?_
      refine nw_get (v := .int (σ51.1 71)) C in_X12 0 ml_O rfl 71 (by decide) tw_1644 rfl rfl dX12_claim_105 ?_
      refine nw_iload C dX12_claim_108 4 rfl ?_
      refine nw_iast C 49 ml_75 dX12_claim_110 h ms_75 (fun h => ?_)
      refine nw_aload_n C dX12_claim_111 rfl 0 rfl ?_
      refine nw_dup C dX12_claim_112 rfl ?_
      refine nw_get (v := .int (σ51.1 71)) C in_X12 0 ml_O rfl 71 (by decide) tw_1644 rfl rfl dX12_claim_113 ?_
      refine nw_iconst (v := 1) C dX12_claim_116 (by decide) ?_
      refine nw_iadd C dX12_claim_117 ?_
      refine nw_put (ty := .int) C in_X12 0 ml_O rfl 71 (by decide) tyX12 tyX12_ok nmX12 tw_1644 rfl rfl (by decide +kernel) rfl rfl (Nat.le_of_ble_eq_true rfl) dX12_claim_118 ms_71 ?_
      refine nw_aload_n C dX12_claim_121 rfl 0 rfl ?_
      refine nw_get (v := .int ((σ51.1 71) + 1)) C in_X12 0 ml_O rfl 71 (by decide) tw_1644 rfl rfl dX12_claim_122 ?_
      refine nw_iconst (v := 1) C dX12_claim_125 (by decide) ?_
      refine nw_isub C dX12_claim_126 ?_
      exact nm_iret C hr dX12_claim_127 h
  · refine nw_iconst (v := 0) C dX12_claim_57 (by decide) ?_
    exact nm_iret C hr dX12_claim_58 h
def B_M_claim_19   (x1 : Int32) (x2 : Int32) (x3 : Int32) (x4 : Int32) (z1 : Int32) (σ : CS) : Option (Int32 × CS) := bnd (f_M_bad z1 1 σ) (fun r20 σ20 => if r20 = 0 then bnd (f_M_in x2 0 5 σ20) (fun r30 σ30 => if r30 = 0 then B_M_claim_50 x1 x2 x3 x4 1 σ30 else bnd (f_M_isPlace x3 x4 σ30) (fun r39 σ39 => if r39 = 0 then B_M_claim_50 x1 x2 x3 x4 1 σ39 else B_M_claim_50 x1 x2 x3 x4 0 σ39)) else some (0, σ20))
set_option maxHeartbeats 4000000 in
set_option maxRecDepth 100000 in
theorem w_M_claim_19 (C : Cx g p s m args meth c A 5 cX12_claim yX12_claim.cls) (hr : meth.sig.returnType = (some .int))  {res : Int32 × CS}   (x1 : Int32) (x2 : Int32) (x3 : Int32) (x4 : Int32) (z1 : Int32)  (σ : CS) (h : B_M_claim_19 x1 x2 x3 x4 z1 σ = some res) : NMI g p l e s m args below meth c A 2 43 5 am Rr res σ [(0, .ref (am 112)), (1, .int x1), (2, .int x2), (3, .int x3), (4, .int x4)] 19 [.int z1, .ref (am 112)] := by
  unfold B_M_claim_19 at h
  refine nw_iconst (v := 1) C dX12_claim_19 (by decide) ?_
  refine nm_callVI (q0 := 0) (As := [.int z1, .int 1]) (rest := []) C h (fun _ _ e => c_M_bad e) tw_1924 kv_X12_bad ml_O rfl ⟨Nat.le_of_ble_eq_true rfl, Nat.le_of_ble_eq_true rfl⟩ rfl dX12_claim_20 rfl (Nat.le_of_ble_eq_true rfl) (fun r20 σ20 h => ?_)
  refine nw_if_ne (tgt := 57) C dX12_claim_23 (by decide) h (fun _ h => ?_) (fun _ h => ?_)
  · refine nw_aload_n C dX12_claim_26 rfl 0 rfl ?_
    refine nw_iload_n C dX12_claim_27 rfl 2 rfl ?_
    refine nw_iconst (v := 0) C dX12_claim_28 (by decide) ?_
    refine nw_iconst (v := 5) C dX12_claim_29 (by decide) ?_
    refine nm_callSI  (As := [.int x2, .int 0, .int 5]) (rest := [.ref (am 112)]) C h (fun _ _ e => c_M_in e) tw_1918 ks_X12_in ⟨Nat.le_of_ble_eq_true rfl, Nat.le_of_ble_eq_true rfl⟩ rfl dX12_claim_30 rfl (Nat.le_of_ble_eq_true rfl) (fun r30 σ30 h => ?_)
    refine nw_if_eq (tgt := 45) C dX12_claim_33 (by decide) h (fun _ h => ?_) (fun _ h => ?_)
    · refine nw_iconst (v := 1) C dX12_claim_45 (by decide) ?_
      refine nw_goto (tgt := 50) C dX12_claim_46 (by decide) ?_
      exact nw_lv (lv' := [(0, .ref (am 112)), (1, .int x1), (2, .int x2), (3, .int x3), (4, .int x4)]) [0, 1, 2, 3, 4] rfl (w_M_claim_50 C hr x1 x2 x3 x4 1 _ h)
    · refine nw_iload_n C dX12_claim_36 rfl 3 rfl ?_
      refine nw_iload C dX12_claim_37 4 rfl ?_
      refine nm_callSI  (As := [.int x3, .int x4]) (rest := [.ref (am 112)]) C h (fun _ _ e => c_M_isPlace e) tw_1921 ks_X12_isPlace ⟨Nat.le_of_ble_eq_true rfl, Nat.le_of_ble_eq_true rfl⟩ rfl dX12_claim_39 rfl (Nat.le_of_ble_eq_true rfl) (fun r39 σ39 h => ?_)
      refine nw_if_ne (tgt := 49) C dX12_claim_42 (by decide) h (fun _ h => ?_) (fun _ h => ?_)
      · refine nw_iconst (v := 1) C dX12_claim_45 (by decide) ?_
        refine nw_goto (tgt := 50) C dX12_claim_46 (by decide) ?_
        exact nw_lv (lv' := [(0, .ref (am 112)), (1, .int x1), (2, .int x2), (3, .int x3), (4, .int x4)]) [0, 1, 2, 3, 4] rfl (w_M_claim_50 C hr x1 x2 x3 x4 1 _ h)
      · refine nw_iconst (v := 0) C dX12_claim_49 (by decide) ?_
        exact nw_lv (lv' := [(0, .ref (am 112)), (1, .int x1), (2, .int x2), (3, .int x3), (4, .int x4)]) [0, 1, 2, 3, 4] rfl (w_M_claim_50 C hr x1 x2 x3 x4 0 _ h)
  · refine nw_iconst (v := 0) C dX12_claim_57 (by decide) ?_
    exact nm_iret C hr dX12_claim_58 h
def f_M_claim (p0 : Int32) (p1 : Int32) (p2 : Int32) (p3 : Int32) (σ : CS) : Option (Int32 × CS) := bnd (f_M_isPerson p0 (sF σ 0 0)) (fun r8 σ8 => if r8 = 0 then B_M_claim_19 p0 p1 p2 p3 1 σ8 else B_M_claim_19 p0 p1 p2 p3 0 σ8)
set_option maxHeartbeats 4000000 in
set_option maxRecDepth 100000 in
theorem c_M_claim {l : Launch} {g : EG} {am : Nat → Nat} {Rr : va_W} {σ σ' : CS} {r : Int32} {p0 : Int32} {p1 : Int32} {p2 : Int32} {p3 : Int32}  (h : f_M_claim p0 p1 p2 p3 σ = some (r, σ')) : CmI l g yX12_claim (.code yX12_claim cX12_claim 5 (some .int)) 2 43 am Rr σ [.ref (am 112), .int p0, .int p1, .int p2, .int p3] r σ' := by
  refine Ct.of rfl (by decide) (Nat.le_of_ble_eq_true rfl) ?_
  intro p e s m args below meth c A C hr
  show NMI g p l e s m args below meth c A 2 43 5 am Rr (r, σ') σ [(0, .ref (am 112)), (1, .int p0), (2, .int p1), (3, .int p2), (4, .int p3)] 0 []
  unfold f_M_claim at h
  refine nw_aload_n C dX12_claim_0 rfl 0 rfl ?_
  refine nw_iconst (v := 0) C dX12_claim_1 (by decide) ?_
  refine nw_put (ty := .int) C in_X12 0 ml_O rfl 0 (by decide) tyX12 tyX12_ok nmX12 tw_1573 rfl rfl (by decide +kernel) rfl rfl (Nat.le_of_ble_eq_true rfl) dX12_claim_2 ms_0 ?_
  refine nw_aload_n C dX12_claim_5 rfl 0 rfl ?_
  refine nw_aload_n C dX12_claim_6 rfl 0 rfl ?_
  refine nw_iload_n C dX12_claim_7 rfl 1 rfl ?_
  refine nm_callVI (q0 := 0) (As := [.int p0]) (rest := [.ref (am 112)]) C h (fun _ _ e => c_M_isPerson e) tw_2172 kv_X12_isPerson ml_O rfl ⟨Nat.le_of_ble_eq_true rfl, Nat.le_of_ble_eq_true rfl⟩ rfl dX12_claim_8 rfl (Nat.le_of_ble_eq_true rfl) (fun r8 σ8 h => ?_)
  refine nw_if_ne (tgt := 18) C dX12_claim_11 (by decide) h (fun _ h => ?_) (fun _ h => ?_)
  · refine nw_iconst (v := 1) C dX12_claim_14 (by decide) ?_
    refine nw_goto (tgt := 19) C dX12_claim_15 (by decide) ?_
    exact nw_lv (lv' := [(0, .ref (am 112)), (1, .int p0), (2, .int p1), (3, .int p2), (4, .int p3)]) [0, 1, 2, 3, 4] rfl (w_M_claim_19 C hr p0 p1 p2 p3 1 _ h)
  · refine nw_iconst (v := 0) C dX12_claim_18 (by decide) ?_
    exact nw_lv (lv' := [(0, .ref (am 112)), (1, .int p0), (2, .int p1), (3, .int p2), (4, .int p3)]) [0, 1, 2, 3, 4] rfl (w_M_claim_19 C hr p0 p1 p2 p3 0 _ h)
theorem dX12_use_0 : decode cX12_use 0 = .ok (.aload_n 0, 1) := by decide +kernel
theorem dX12_use_1 : decode cX12_use 1 = .ok (.iconst 0, 1) := by decide +kernel
theorem dX12_use_2 : decode cX12_use 2 = .ok (.putfield 253, 3) := by decide +kernel
theorem dX12_use_5 : decode cX12_use 5 = .ok (.aload_n 0, 1) := by decide +kernel
theorem dX12_use_6 : decode cX12_use 6 = .ok (.iload_n 1, 1) := by decide +kernel
theorem dX12_use_7 : decode cX12_use 7 = .ok (.iconst 0, 1) := by decide +kernel
theorem dX12_use_8 : decode cX12_use 8 = .ok (.aload_n 0, 1) := by decide +kernel
theorem dX12_use_9 : decode cX12_use 9 = .ok (.getfield 554, 3) := by decide +kernel
theorem dX12_use_12 : decode cX12_use 12 = .ok (.iconst 1, 1) := by decide +kernel
theorem dX12_use_13 : decode cX12_use 13 = .ok (.isub, 1) := by decide +kernel
theorem dX12_use_14 : decode cX12_use 14 = .ok (.invokestatic 257, 3) := by decide +kernel
theorem dX12_use_17 : decode cX12_use 17 = .ok (.ifCond .ne 7, 3) := by decide +kernel
theorem dX12_use_20 : decode cX12_use 20 = .ok (.iconst 1, 1) := by decide +kernel
theorem dX12_use_21 : decode cX12_use 21 = .ok (.goto 4, 3) := by decide +kernel
theorem dX12_use_24 : decode cX12_use 24 = .ok (.iconst 0, 1) := by decide +kernel
theorem dX12_use_25 : decode cX12_use 25 = .ok (.iconst 1, 1) := by decide +kernel
theorem dX12_use_26 : decode cX12_use 26 = .ok (.invokevirtual 265, 3) := by decide +kernel
theorem dX12_use_29 : decode cX12_use 29 = .ok (.ifCond .ne 32, 3) := by decide +kernel
theorem dX12_use_32 : decode cX12_use 32 = .ok (.aload_n 0, 1) := by decide +kernel
theorem dX12_use_33 : decode cX12_use 33 = .ok (.iload_n 2, 1) := by decide +kernel
theorem dX12_use_34 : decode cX12_use 34 = .ok (.iconst 0, 1) := by decide +kernel
theorem dX12_use_35 : decode cX12_use 35 = .ok (.iconst 1, 1) := by decide +kernel
theorem dX12_use_36 : decode cX12_use 36 = .ok (.invokestatic 257, 3) := by decide +kernel
theorem dX12_use_39 : decode cX12_use 39 = .ok (.ifCond .eq 10, 3) := by decide +kernel
theorem dX12_use_42 : decode cX12_use 42 = .ok (.iload_n 3, 1) := by decide +kernel
theorem dX12_use_43 : decode cX12_use 43 = .ok (.invokestatic 298, 3) := by decide +kernel
theorem dX12_use_46 : decode cX12_use 46 = .ok (.ifCond .ne 7, 3) := by decide +kernel
theorem dX12_use_49 : decode cX12_use 49 = .ok (.iconst 1, 1) := by decide +kernel
theorem dX12_use_50 : decode cX12_use 50 = .ok (.goto 4, 3) := by decide +kernel
theorem dX12_use_53 : decode cX12_use 53 = .ok (.iconst 0, 1) := by decide +kernel
theorem dX12_use_54 : decode cX12_use 54 = .ok (.iconst 2, 1) := by decide +kernel
theorem dX12_use_55 : decode cX12_use 55 = .ok (.invokevirtual 265, 3) := by decide +kernel
theorem dX12_use_58 : decode cX12_use 58 = .ok (.ifCond .eq 5, 3) := by decide +kernel
theorem dX12_use_61 : decode cX12_use 61 = .ok (.iconst 0, 1) := by decide +kernel
theorem dX12_use_62 : decode cX12_use 62 = .ok (.ireturn, 1) := by decide +kernel
theorem dX12_use_63 : decode cX12_use 63 = .ok (.aload_n 0, 1) := by decide +kernel
theorem dX12_use_64 : decode cX12_use 64 = .ok (.getfield 163, 3) := by decide +kernel
theorem dX12_use_67 : decode cX12_use 67 = .ok (.iload_n 1, 1) := by decide +kernel
theorem dX12_use_68 : decode cX12_use 68 = .ok (.iaload, 1) := by decide +kernel
theorem dX12_use_69 : decode cX12_use 69 = .ok (.bipush 60, 2) := by decide +kernel
theorem dX12_use_71 : decode cX12_use 71 = .ok (.if_icmp .ne 5, 3) := by decide +kernel
theorem dX12_use_74 : decode cX12_use 74 = .ok (.iconst (-1), 1) := by decide +kernel
theorem dX12_use_75 : decode cX12_use 75 = .ok (.ireturn, 1) := by decide +kernel
theorem dX12_use_76 : decode cX12_use 76 = .ok (.aload_n 0, 1) := by decide +kernel
theorem dX12_use_77 : decode cX12_use 77 = .ok (.getfield 166, 3) := by decide +kernel
theorem dX12_use_80 : decode cX12_use 80 = .ok (.bipush 60, 2) := by decide +kernel
theorem dX12_use_82 : decode cX12_use 82 = .ok (.iload_n 1, 1) := by decide +kernel
theorem dX12_use_83 : decode cX12_use 83 = .ok (.imul, 1) := by decide +kernel
theorem dX12_use_84 : decode cX12_use 84 = .ok (.aload_n 0, 1) := by decide +kernel
theorem dX12_use_85 : decode cX12_use 85 = .ok (.getfield 163, 3) := by decide +kernel
theorem dX12_use_88 : decode cX12_use 88 = .ok (.iload_n 1, 1) := by decide +kernel
theorem dX12_use_89 : decode cX12_use 89 = .ok (.iaload, 1) := by decide +kernel
theorem dX12_use_90 : decode cX12_use 90 = .ok (.iadd, 1) := by decide +kernel
theorem dX12_use_91 : decode cX12_use 91 = .ok (.iload_n 2, 1) := by decide +kernel
theorem dX12_use_92 : decode cX12_use 92 = .ok (.iastore, 1) := by decide +kernel
theorem dX12_use_93 : decode cX12_use 93 = .ok (.aload_n 0, 1) := by decide +kernel
theorem dX12_use_94 : decode cX12_use 94 = .ok (.getfield 169, 3) := by decide +kernel
theorem dX12_use_97 : decode cX12_use 97 = .ok (.bipush 60, 2) := by decide +kernel
theorem dX12_use_99 : decode cX12_use 99 = .ok (.iload_n 1, 1) := by decide +kernel
theorem dX12_use_100 : decode cX12_use 100 = .ok (.imul, 1) := by decide +kernel
theorem dX12_use_101 : decode cX12_use 101 = .ok (.aload_n 0, 1) := by decide +kernel
theorem dX12_use_102 : decode cX12_use 102 = .ok (.getfield 163, 3) := by decide +kernel
theorem dX12_use_105 : decode cX12_use 105 = .ok (.iload_n 1, 1) := by decide +kernel
theorem dX12_use_106 : decode cX12_use 106 = .ok (.iaload, 1) := by decide +kernel
theorem dX12_use_107 : decode cX12_use 107 = .ok (.iadd, 1) := by decide +kernel
theorem dX12_use_108 : decode cX12_use 108 = .ok (.iload_n 3, 1) := by decide +kernel
theorem dX12_use_109 : decode cX12_use 109 = .ok (.iastore, 1) := by decide +kernel
theorem dX12_use_110 : decode cX12_use 110 = .ok (.aload_n 0, 1) := by decide +kernel
theorem dX12_use_111 : decode cX12_use 111 = .ok (.getfield 163, 3) := by decide +kernel
theorem dX12_use_114 : decode cX12_use 114 = .ok (.iload_n 1, 1) := by decide +kernel
theorem dX12_use_115 : decode cX12_use 115 = .ok (.dup2, 1) := by decide +kernel
theorem dX12_use_116 : decode cX12_use 116 = .ok (.iaload, 1) := by decide +kernel
theorem dX12_use_117 : decode cX12_use 117 = .ok (.iconst 1, 1) := by decide +kernel
theorem dX12_use_118 : decode cX12_use 118 = .ok (.iadd, 1) := by decide +kernel
theorem dX12_use_119 : decode cX12_use 119 = .ok (.iastore, 1) := by decide +kernel
theorem dX12_use_120 : decode cX12_use 120 = .ok (.aload_n 0, 1) := by decide +kernel
theorem dX12_use_121 : decode cX12_use 121 = .ok (.getfield 163, 3) := by decide +kernel
theorem dX12_use_124 : decode cX12_use 124 = .ok (.iload_n 1, 1) := by decide +kernel
theorem dX12_use_125 : decode cX12_use 125 = .ok (.iaload, 1) := by decide +kernel
theorem dX12_use_126 : decode cX12_use 126 = .ok (.ireturn, 1) := by decide +kernel
def B_M_use_54   (x1 : Int32) (x2 : Int32) (x3 : Int32) (z1 : Int32) (σ : CS) : Option (Int32 × CS) := bnd (f_M_bad z1 2 σ) (fun r55 σ55 => if r55 = 0 then gix x1 20 (if (rd σ55 76 x1) = 60 then some ((-1), σ55) else gix x1 20 (gix ((60 * x1) + (rd σ55 76 x1)) 1200 (gix x1 20 (gix ((60 * x1) + (rd σ55 76 x1)) 1200 (gix x1 20 (gix x1 20 (gix x1 20 (some ((rd (wr σ55 76 x1 ((rd σ55 76 x1) + 1)) 76 x1), (wr (wr (wr σ55 77 ((60 * x1) + (rd σ55 76 x1)) x2) 78 ((60 * x1) + (rd σ55 76 x1)) x3) 76 x1 ((rd σ55 76 x1) + 1))))))))))) else some (0, σ55))
set_option maxHeartbeats 4000000 in
set_option maxRecDepth 100000 in
theorem w_M_use_54 (C : Cx g p s m args meth c A 4 cX12_use yX12_use.cls) (hr : meth.sig.returnType = (some .int))  {res : Int32 × CS}   (x1 : Int32) (x2 : Int32) (x3 : Int32) (z1 : Int32)  (σ : CS) (h : B_M_use_54 x1 x2 x3 z1 σ = some res) : NMI g p l e s m args below meth c A 2 42 4 am Rr res σ [(0, .ref (am 112)), (1, .int x1), (2, .int x2), (3, .int x3)] 54 [.int z1, .ref (am 112)] := by
  unfold B_M_use_54 at h
  refine nw_iconst (v := 2) C dX12_use_54 (by decide) ?_
  refine nm_callVI (q0 := 0) (As := [.int z1, .int 2]) (rest := []) C h (fun _ _ e => c_M_bad e) tw_1924 kv_X12_bad ml_O rfl ⟨Nat.le_of_ble_eq_true rfl, Nat.le_of_ble_eq_true rfl⟩ rfl dX12_use_55 rfl (Nat.le_of_ble_eq_true rfl) (fun r55 σ55 h => ?_)
  refine nw_if_eq (tgt := 63) C dX12_use_58 (by decide) h (fun _ h => ?_) (fun _ h => ?_)
  · refine nw_aload_n C dX12_use_63 rfl 0 rfl ?_
    refine nw_get (v := .ref (am 76)) C in_X12 0 ml_O rfl 76 (by decide) tw_1649 rfl mf_76 dX12_use_64 ?_
    refine nw_iload_n C dX12_use_67 rfl 1 rfl ?_
    refine nw_iald C 50 ml_76 dX12_use_68 h (fun h => ?_)
    refine nw_bipush (v := 60) C dX12_use_69 (by decide) ?_
    refine nw_icmp_ne (tgt := 76) C dX12_use_71 (by decide) h (fun _ h => ?_) (fun _ h => ?_)
    · refine nw_iconst (v := (-1)) C dX12_use_74 (by decide) ?_
      exact nm_iret C hr dX12_use_75 h
    · refine nw_aload_n C dX12_use_76 rfl 0 rfl ?_
      refine nw_get (v := .ref (am 77)) C in_X12 0 ml_O rfl 77 (by decide) tw_1650 rfl mf_77 dX12_use_77 ?_
      refine nw_bipush (v := 60) C dX12_use_80 (by decide) ?_
      refine nw_iload_n C dX12_use_82 rfl 1 rfl ?_
      refine nw_imul C dX12_use_83 ?_
      refine nw_aload_n C dX12_use_84 rfl 0 rfl ?_
      refine nw_get (v := .ref (am 76)) C in_X12 0 ml_O rfl 76 (by decide) tw_1649 rfl mf_76 dX12_use_85 ?_
      refine nw_iload_n C dX12_use_88 rfl 1 rfl ?_
      refine nw_iald C 50 ml_76 dX12_use_89 h (fun h => ?_)
      refine nw_iadd C dX12_use_90 ?_
      refine nw_iload_n C dX12_use_91 rfl 2 rfl ?_
      refine nw_iast C 51 ml_77 dX12_use_92 h ms_77 (fun h => ?_)
      refine nw_aload_n C dX12_use_93 rfl 0 rfl ?_
      refine nw_get (v := .ref (am 78)) C in_X12 0 ml_O rfl 78 (by decide) tw_1651 rfl mf_78 dX12_use_94 ?_
      refine nw_bipush (v := 60) C dX12_use_97 (by decide) ?_
      refine nw_iload_n C dX12_use_99 rfl 1 rfl ?_
      refine nw_imul C dX12_use_100 ?_
      refine nw_aload_n C dX12_use_101 rfl 0 rfl ?_
      refine nw_get (v := .ref (am 76)) C in_X12 0 ml_O rfl 76 (by decide) tw_1649 rfl mf_76 dX12_use_102 ?_
      refine nw_iload_n C dX12_use_105 rfl 1 rfl ?_
      refine nw_iald C 50 ml_76 dX12_use_106 h (fun h => ?_)
      refine nw_st (st' := [.int (rd σ55 76 x1), .int (60 * x1), .ref (am 78)]) rfl ?_
      refine nw_iadd C dX12_use_107 ?_
      refine nw_iload_n C dX12_use_108 rfl 3 rfl ?_
      refine nw_iast C 52 ml_78 dX12_use_109 h ms_78 (fun h => ?_)
      refine nw_aload_n C dX12_use_110 rfl 0 rfl ?_
      refine nw_get (v := .ref (am 76)) C in_X12 0 ml_O rfl 76 (by decide) tw_1649 rfl mf_76 dX12_use_111 ?_
      refine nw_iload_n C dX12_use_114 rfl 1 rfl ?_
      refine nw_dup2 C dX12_use_115 rfl rfl ?_
      refine nw_iald C 50 ml_76 dX12_use_116 h (fun h => ?_)
      refine nw_st (st' := [.int (rd σ55 76 x1), .int x1, .ref (am 76)]) rfl ?_
      refine nw_iconst (v := 1) C dX12_use_117 (by decide) ?_
      refine nw_iadd C dX12_use_118 ?_
      refine nw_iast C 50 ml_76 dX12_use_119 h ms_76 (fun h => ?_)
      refine nw_aload_n C dX12_use_120 rfl 0 rfl ?_
      refine nw_get (v := .ref (am 76)) C in_X12 0 ml_O rfl 76 (by decide) tw_1649 rfl mf_76 dX12_use_121 ?_
      refine nw_iload_n C dX12_use_124 rfl 1 rfl ?_
      refine nw_iald C 50 ml_76 dX12_use_125 h (fun h => ?_)
      refine nw_st (st' := [.int (rd (wr σ55 76 x1 ((rd σ55 76 x1) + 1)) 76 x1)]) rfl ?_
      exact nm_iret C hr dX12_use_126 h
  · refine nw_iconst (v := 0) C dX12_use_61 (by decide) ?_
    exact nm_iret C hr dX12_use_62 h
def B_M_use_25   (x1 : Int32) (x2 : Int32) (x3 : Int32) (z1 : Int32) (σ : CS) : Option (Int32 × CS) := bnd (f_M_bad z1 1 σ) (fun r26 σ26 => if r26 = 0 then bnd (f_M_in x2 0 1 σ26) (fun r36 σ36 => if r36 = 0 then B_M_use_54 x1 x2 x3 1 σ36 else bnd (f_M_isDay x3 σ36) (fun r43 σ43 => if r43 = 0 then B_M_use_54 x1 x2 x3 1 σ43 else B_M_use_54 x1 x2 x3 0 σ43)) else some (0, σ26))
set_option maxHeartbeats 4000000 in
set_option maxRecDepth 100000 in
theorem w_M_use_25 (C : Cx g p s m args meth c A 4 cX12_use yX12_use.cls) (hr : meth.sig.returnType = (some .int))  {res : Int32 × CS}   (x1 : Int32) (x2 : Int32) (x3 : Int32) (z1 : Int32)  (σ : CS) (h : B_M_use_25 x1 x2 x3 z1 σ = some res) : NMI g p l e s m args below meth c A 2 42 4 am Rr res σ [(0, .ref (am 112)), (1, .int x1), (2, .int x2), (3, .int x3)] 25 [.int z1, .ref (am 112)] := by
  unfold B_M_use_25 at h
  refine nw_iconst (v := 1) C dX12_use_25 (by decide) ?_
  refine nm_callVI (q0 := 0) (As := [.int z1, .int 1]) (rest := []) C h (fun _ _ e => c_M_bad e) tw_1924 kv_X12_bad ml_O rfl ⟨Nat.le_of_ble_eq_true rfl, Nat.le_of_ble_eq_true rfl⟩ rfl dX12_use_26 rfl (Nat.le_of_ble_eq_true rfl) (fun r26 σ26 h => ?_)
  refine nw_if_ne (tgt := 61) C dX12_use_29 (by decide) h (fun _ h => ?_) (fun _ h => ?_)
  · refine nw_aload_n C dX12_use_32 rfl 0 rfl ?_
    refine nw_iload_n C dX12_use_33 rfl 2 rfl ?_
    refine nw_iconst (v := 0) C dX12_use_34 (by decide) ?_
    refine nw_iconst (v := 1) C dX12_use_35 (by decide) ?_
    refine nm_callSI  (As := [.int x2, .int 0, .int 1]) (rest := [.ref (am 112)]) C h (fun _ _ e => c_M_in e) tw_1918 ks_X12_in ⟨Nat.le_of_ble_eq_true rfl, Nat.le_of_ble_eq_true rfl⟩ rfl dX12_use_36 rfl (Nat.le_of_ble_eq_true rfl) (fun r36 σ36 h => ?_)
    refine nw_if_eq (tgt := 49) C dX12_use_39 (by decide) h (fun _ h => ?_) (fun _ h => ?_)
    · refine nw_iconst (v := 1) C dX12_use_49 (by decide) ?_
      refine nw_goto (tgt := 54) C dX12_use_50 (by decide) ?_
      exact nw_lv (lv' := [(0, .ref (am 112)), (1, .int x1), (2, .int x2), (3, .int x3)]) [0, 1, 2, 3] rfl (w_M_use_54 C hr x1 x2 x3 1 _ h)
    · refine nw_iload_n C dX12_use_42 rfl 3 rfl ?_
      refine nm_callSI  (As := [.int x3]) (rest := [.ref (am 112)]) C h (fun _ _ e => c_M_isDay e) tw_1936 ks_X12_isDay ⟨Nat.le_of_ble_eq_true rfl, Nat.le_of_ble_eq_true rfl⟩ rfl dX12_use_43 rfl (Nat.le_of_ble_eq_true rfl) (fun r43 σ43 h => ?_)
      refine nw_if_ne (tgt := 53) C dX12_use_46 (by decide) h (fun _ h => ?_) (fun _ h => ?_)
      · refine nw_iconst (v := 1) C dX12_use_49 (by decide) ?_
        refine nw_goto (tgt := 54) C dX12_use_50 (by decide) ?_
        exact nw_lv (lv' := [(0, .ref (am 112)), (1, .int x1), (2, .int x2), (3, .int x3)]) [0, 1, 2, 3] rfl (w_M_use_54 C hr x1 x2 x3 1 _ h)
      · refine nw_iconst (v := 0) C dX12_use_53 (by decide) ?_
        exact nw_lv (lv' := [(0, .ref (am 112)), (1, .int x1), (2, .int x2), (3, .int x3)]) [0, 1, 2, 3] rfl (w_M_use_54 C hr x1 x2 x3 0 _ h)
  · refine nw_iconst (v := 0) C dX12_use_61 (by decide) ?_
    exact nm_iret C hr dX12_use_62 h
def f_M_use (p0 : Int32) (p1 : Int32) (p2 : Int32) (σ : CS) : Option (Int32 × CS) := bnd (f_M_in p0 0 ((σ.1 71) - 1) (sF σ 0 0)) (fun r14 σ14 => if r14 = 0 then B_M_use_25 p0 p1 p2 1 σ14 else B_M_use_25 p0 p1 p2 0 σ14)
set_option maxHeartbeats 4000000 in
set_option maxRecDepth 100000 in
theorem c_M_use {l : Launch} {g : EG} {am : Nat → Nat} {Rr : va_W} {σ σ' : CS} {r : Int32} {p0 : Int32} {p1 : Int32} {p2 : Int32}  (h : f_M_use p0 p1 p2 σ = some (r, σ')) : CmI l g yX12_use (.code yX12_use cX12_use 4 (some .int)) 2 42 am Rr σ [.ref (am 112), .int p0, .int p1, .int p2] r σ' := by
  refine Ct.of rfl (by decide) (Nat.le_of_ble_eq_true rfl) ?_
  intro p e s m args below meth c A C hr
  show NMI g p l e s m args below meth c A 2 42 4 am Rr (r, σ') σ [(0, .ref (am 112)), (1, .int p0), (2, .int p1), (3, .int p2)] 0 []
  unfold f_M_use at h
  refine nw_aload_n C dX12_use_0 rfl 0 rfl ?_
  refine nw_iconst (v := 0) C dX12_use_1 (by decide) ?_
  refine nw_put (ty := .int) C in_X12 0 ml_O rfl 0 (by decide) tyX12 tyX12_ok nmX12 tw_1573 rfl rfl (by decide +kernel) rfl rfl (Nat.le_of_ble_eq_true rfl) dX12_use_2 ms_0 ?_
  refine nw_aload_n C dX12_use_5 rfl 0 rfl ?_
  refine nw_iload_n C dX12_use_6 rfl 1 rfl ?_
  refine nw_iconst (v := 0) C dX12_use_7 (by decide) ?_
  refine nw_aload_n C dX12_use_8 rfl 0 rfl ?_
  refine nw_get (v := .int (σ.1 71)) C in_X12 0 ml_O rfl 71 (by decide) tw_1644 rfl rfl dX12_use_9 ?_
  refine nw_iconst (v := 1) C dX12_use_12 (by decide) ?_
  refine nw_isub C dX12_use_13 ?_
  refine nm_callSI  (As := [.int p0, .int 0, .int ((σ.1 71) - 1)]) (rest := [.ref (am 112)]) C h (fun _ _ e => c_M_in e) tw_1918 ks_X12_in ⟨Nat.le_of_ble_eq_true rfl, Nat.le_of_ble_eq_true rfl⟩ rfl dX12_use_14 rfl (Nat.le_of_ble_eq_true rfl) (fun r14 σ14 h => ?_)
  refine nw_if_ne (tgt := 24) C dX12_use_17 (by decide) h (fun _ h => ?_) (fun _ h => ?_)
  · refine nw_iconst (v := 1) C dX12_use_20 (by decide) ?_
    refine nw_goto (tgt := 25) C dX12_use_21 (by decide) ?_
    exact nw_lv (lv' := [(0, .ref (am 112)), (1, .int p0), (2, .int p1), (3, .int p2)]) [0, 1, 2, 3] rfl (w_M_use_25 C hr p0 p1 p2 1 _ h)
  · refine nw_iconst (v := 0) C dX12_use_24 (by decide) ?_
    exact nw_lv (lv' := [(0, .ref (am 112)), (1, .int p0), (2, .int p1), (3, .int p2)]) [0, 1, 2, 3] rfl (w_M_use_25 C hr p0 p1 p2 0 _ h)
end
