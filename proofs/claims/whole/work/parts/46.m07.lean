section
variable {g : EG} {p : Program} {l : Launch} {e : Env} {s : State} {m : MethodId} {args : Array Value} {below : List Frame} {meth : Method} {c : Code} {A : Nat → Prop} {ad am ta : Nat → Nat} {Rr : va_W} {φ0 : Nat}
theorem dX12_sure_0 : decode cX12_sure 0 = .ok (.aload_n 0, 1) := by decide +kernel
theorem dX12_sure_1 : decode cX12_sure 1 = .ok (.iconst 0, 1) := by decide +kernel
theorem dX12_sure_2 : decode cX12_sure 2 = .ok (.putfield 253, 3) := by decide +kernel
theorem dX12_sure_5 : decode cX12_sure 5 = .ok (.aload_n 0, 1) := by decide +kernel
theorem dX12_sure_6 : decode cX12_sure 6 = .ok (.iload_n 1, 1) := by decide +kernel
theorem dX12_sure_7 : decode cX12_sure 7 = .ok (.iconst 0, 1) := by decide +kernel
theorem dX12_sure_8 : decode cX12_sure 8 = .ok (.aload_n 0, 1) := by decide +kernel
theorem dX12_sure_9 : decode cX12_sure 9 = .ok (.getfield 554, 3) := by decide +kernel
theorem dX12_sure_12 : decode cX12_sure 12 = .ok (.iconst 1, 1) := by decide +kernel
theorem dX12_sure_13 : decode cX12_sure 13 = .ok (.isub, 1) := by decide +kernel
theorem dX12_sure_14 : decode cX12_sure 14 = .ok (.invokestatic 257, 3) := by decide +kernel
theorem dX12_sure_17 : decode cX12_sure 17 = .ok (.ifCond .ne 7, 3) := by decide +kernel
theorem dX12_sure_20 : decode cX12_sure 20 = .ok (.iconst 1, 1) := by decide +kernel
theorem dX12_sure_21 : decode cX12_sure 21 = .ok (.goto 4, 3) := by decide +kernel
theorem dX12_sure_24 : decode cX12_sure 24 = .ok (.iconst 0, 1) := by decide +kernel
theorem dX12_sure_25 : decode cX12_sure 25 = .ok (.iconst 1, 1) := by decide +kernel
theorem dX12_sure_26 : decode cX12_sure 26 = .ok (.invokevirtual 265, 3) := by decide +kernel
theorem dX12_sure_29 : decode cX12_sure 29 = .ok (.ifCond .ne 23, 3) := by decide +kernel
theorem dX12_sure_32 : decode cX12_sure 32 = .ok (.aload_n 0, 1) := by decide +kernel
theorem dX12_sure_33 : decode cX12_sure 33 = .ok (.iload_n 2, 1) := by decide +kernel
theorem dX12_sure_34 : decode cX12_sure 34 = .ok (.invokestatic 298, 3) := by decide +kernel
theorem dX12_sure_37 : decode cX12_sure 37 = .ok (.ifCond .ne 7, 3) := by decide +kernel
theorem dX12_sure_40 : decode cX12_sure 40 = .ok (.iconst 1, 1) := by decide +kernel
theorem dX12_sure_41 : decode cX12_sure 41 = .ok (.goto 4, 3) := by decide +kernel
theorem dX12_sure_44 : decode cX12_sure 44 = .ok (.iconst 0, 1) := by decide +kernel
theorem dX12_sure_45 : decode cX12_sure 45 = .ok (.iconst 2, 1) := by decide +kernel
theorem dX12_sure_46 : decode cX12_sure 46 = .ok (.invokevirtual 265, 3) := by decide +kernel
theorem dX12_sure_49 : decode cX12_sure 49 = .ok (.ifCond .eq 7, 3) := by decide +kernel
theorem dX12_sure_52 : decode cX12_sure 52 = .ok (.iconst 0, 1) := by decide +kernel
theorem dX12_sure_53 : decode cX12_sure 53 = .ok (.goto 9, 3) := by decide +kernel
theorem dX12_sure_56 : decode cX12_sure 56 = .ok (.aload_n 0, 1) := by decide +kernel
theorem dX12_sure_57 : decode cX12_sure 57 = .ok (.iload_n 1, 1) := by decide +kernel
theorem dX12_sure_58 : decode cX12_sure 58 = .ok (.iload_n 2, 1) := by decide +kernel
theorem dX12_sure_59 : decode cX12_sure 59 = .ok (.invokevirtual 557, 3) := by decide +kernel
theorem dX12_sure_62 : decode cX12_sure 62 = .ok (.ireturn, 1) := by decide +kernel
def B_M_sure_45   (x1 : Int32) (x2 : Int32) (z1 : Int32) (σ : CS) : Option (Int32 × CS) := bnd (f_M_bad z1 2 σ) (fun r46 σ46 => if r46 = 0 then bnd (f_M_sureOf x1 x2 σ46) (fun r59 σ59 => some (r59, σ59)) else some (0, σ46))
set_option maxHeartbeats 4000000 in
set_option maxRecDepth 100000 in
theorem w_M_sure_45 (C : Cx g p s m args meth c A 3 cX12_sure yX12_sure.cls) (hr : meth.sig.returnType = (some .int))  {res : Int32 × CS}   (x1 : Int32) (x2 : Int32) (z1 : Int32)  (σ : CS) (h : B_M_sure_45 x1 x2 z1 σ = some res) : NMI g p l e s m args below meth c A 3 78 3 am Rr res σ [(0, .ref (am 112)), (1, .int x1), (2, .int x2)] 45 [.int z1, .ref (am 112)] := by
  unfold B_M_sure_45 at h
  refine nw_iconst (v := 2) C dX12_sure_45 (by decide) ?_
  refine nm_callVI (q0 := 0) (As := [.int z1, .int 2]) (rest := []) C h (fun _ _ e => c_M_bad e) tw_1924 kv_X12_bad ml_O rfl ⟨Nat.le_of_ble_eq_true rfl, Nat.le_of_ble_eq_true rfl⟩ rfl dX12_sure_46 rfl (Nat.le_of_ble_eq_true rfl) (fun r46 σ46 h => ?_)
  refine nw_if_eq (tgt := 56) C dX12_sure_49 (by decide) h (fun _ h => ?_) (fun _ h => ?_)
  · refine nw_aload_n C dX12_sure_56 rfl 0 rfl ?_
    refine nw_iload_n C dX12_sure_57 rfl 1 rfl ?_
    refine nw_iload_n C dX12_sure_58 rfl 2 rfl ?_
    refine nm_callVI (q0 := 0) (As := [.int x1, .int x2]) (rest := []) C h (fun _ _ e => c_M_sureOf e) tw_2231 kv_X12_sureOf ml_O rfl ⟨Nat.le_of_ble_eq_true rfl, Nat.le_of_ble_eq_true rfl⟩ rfl dX12_sure_59 rfl (Nat.le_of_ble_eq_true rfl) (fun r59 σ59 h => ?_)
    exact nm_iret C hr dX12_sure_62 h
  · refine nw_iconst (v := 0) C dX12_sure_52 (by decide) ?_
    refine nw_goto (tgt := 62) C dX12_sure_53 (by decide) ?_
    exact nm_iret C hr dX12_sure_62 h
def B_M_sure_25   (x1 : Int32) (x2 : Int32) (z1 : Int32) (σ : CS) : Option (Int32 × CS) := bnd (f_M_bad z1 1 σ) (fun r26 σ26 => if r26 = 0 then bnd (f_M_isDay x2 σ26) (fun r34 σ34 => if r34 = 0 then B_M_sure_45 x1 x2 1 σ34 else B_M_sure_45 x1 x2 0 σ34) else some (0, σ26))
set_option maxHeartbeats 4000000 in
set_option maxRecDepth 100000 in
theorem w_M_sure_25 (C : Cx g p s m args meth c A 3 cX12_sure yX12_sure.cls) (hr : meth.sig.returnType = (some .int))  {res : Int32 × CS}   (x1 : Int32) (x2 : Int32) (z1 : Int32)  (σ : CS) (h : B_M_sure_25 x1 x2 z1 σ = some res) : NMI g p l e s m args below meth c A 3 78 3 am Rr res σ [(0, .ref (am 112)), (1, .int x1), (2, .int x2)] 25 [.int z1, .ref (am 112)] := by
  unfold B_M_sure_25 at h
  refine nw_iconst (v := 1) C dX12_sure_25 (by decide) ?_
  refine nm_callVI (q0 := 0) (As := [.int z1, .int 1]) (rest := []) C h (fun _ _ e => c_M_bad e) tw_1924 kv_X12_bad ml_O rfl ⟨Nat.le_of_ble_eq_true rfl, Nat.le_of_ble_eq_true rfl⟩ rfl dX12_sure_26 rfl (Nat.le_of_ble_eq_true rfl) (fun r26 σ26 h => ?_)
  refine nw_if_ne (tgt := 52) C dX12_sure_29 (by decide) h (fun _ h => ?_) (fun _ h => ?_)
  · refine nw_aload_n C dX12_sure_32 rfl 0 rfl ?_
    refine nw_iload_n C dX12_sure_33 rfl 2 rfl ?_
    refine nm_callSI  (As := [.int x2]) (rest := [.ref (am 112)]) C h (fun _ _ e => c_M_isDay e) tw_1936 ks_X12_isDay ⟨Nat.le_of_ble_eq_true rfl, Nat.le_of_ble_eq_true rfl⟩ rfl dX12_sure_34 rfl (Nat.le_of_ble_eq_true rfl) (fun r34 σ34 h => ?_)
    refine nw_if_ne (tgt := 44) C dX12_sure_37 (by decide) h (fun _ h => ?_) (fun _ h => ?_)
    · refine nw_iconst (v := 1) C dX12_sure_40 (by decide) ?_
      refine nw_goto (tgt := 45) C dX12_sure_41 (by decide) ?_
      exact nw_lv (lv' := [(0, .ref (am 112)), (1, .int x1), (2, .int x2)]) [0, 1, 2] rfl (w_M_sure_45 C hr x1 x2 1 _ h)
    · refine nw_iconst (v := 0) C dX12_sure_44 (by decide) ?_
      exact nw_lv (lv' := [(0, .ref (am 112)), (1, .int x1), (2, .int x2)]) [0, 1, 2] rfl (w_M_sure_45 C hr x1 x2 0 _ h)
  · refine nw_iconst (v := 0) C dX12_sure_52 (by decide) ?_
    refine nw_goto (tgt := 62) C dX12_sure_53 (by decide) ?_
    exact nm_iret C hr dX12_sure_62 h
def f_M_sure (p0 : Int32) (p1 : Int32) (σ : CS) : Option (Int32 × CS) := bnd (f_M_in p0 0 ((σ.1 71) - 1) (sF σ 0 0)) (fun r14 σ14 => if r14 = 0 then B_M_sure_25 p0 p1 1 σ14 else B_M_sure_25 p0 p1 0 σ14)
set_option maxHeartbeats 4000000 in
set_option maxRecDepth 100000 in
theorem c_M_sure {l : Launch} {g : EG} {am : Nat → Nat} {Rr : va_W} {σ σ' : CS} {r : Int32} {p0 : Int32} {p1 : Int32}  (h : f_M_sure p0 p1 σ = some (r, σ')) : CmI l g yX12_sure (.code yX12_sure cX12_sure 3 (some .int)) 3 78 am Rr σ [.ref (am 112), .int p0, .int p1] r σ' := by
  refine Ct.of rfl (by decide) (Nat.le_of_ble_eq_true rfl) ?_
  intro p e s m args below meth c A C hr
  show NMI g p l e s m args below meth c A 3 78 3 am Rr (r, σ') σ [(0, .ref (am 112)), (1, .int p0), (2, .int p1)] 0 []
  unfold f_M_sure at h
  refine nw_aload_n C dX12_sure_0 rfl 0 rfl ?_
  refine nw_iconst (v := 0) C dX12_sure_1 (by decide) ?_
  refine nw_put (ty := .int) C in_X12 0 ml_O rfl 0 (by decide) tyX12 tyX12_ok nmX12 tw_1573 rfl rfl (by decide +kernel) rfl rfl (Nat.le_of_ble_eq_true rfl) dX12_sure_2 ms_0 ?_
  refine nw_aload_n C dX12_sure_5 rfl 0 rfl ?_
  refine nw_iload_n C dX12_sure_6 rfl 1 rfl ?_
  refine nw_iconst (v := 0) C dX12_sure_7 (by decide) ?_
  refine nw_aload_n C dX12_sure_8 rfl 0 rfl ?_
  refine nw_get (v := .int (σ.1 71)) C in_X12 0 ml_O rfl 71 (by decide) tw_1644 rfl rfl dX12_sure_9 ?_
  refine nw_iconst (v := 1) C dX12_sure_12 (by decide) ?_
  refine nw_isub C dX12_sure_13 ?_
  refine nm_callSI  (As := [.int p0, .int 0, .int ((σ.1 71) - 1)]) (rest := [.ref (am 112)]) C h (fun _ _ e => c_M_in e) tw_1918 ks_X12_in ⟨Nat.le_of_ble_eq_true rfl, Nat.le_of_ble_eq_true rfl⟩ rfl dX12_sure_14 rfl (Nat.le_of_ble_eq_true rfl) (fun r14 σ14 h => ?_)
  refine nw_if_ne (tgt := 24) C dX12_sure_17 (by decide) h (fun _ h => ?_) (fun _ h => ?_)
  · refine nw_iconst (v := 1) C dX12_sure_20 (by decide) ?_
    refine nw_goto (tgt := 25) C dX12_sure_21 (by decide) ?_
    exact nw_lv (lv' := [(0, .ref (am 112)), (1, .int p0), (2, .int p1)]) [0, 1, 2] rfl (w_M_sure_25 C hr p0 p1 1 _ h)
  · refine nw_iconst (v := 0) C dX12_sure_24 (by decide) ?_
    exact nw_lv (lv' := [(0, .ref (am 112)), (1, .int p0), (2, .int p1)]) [0, 1, 2] rfl (w_M_sure_25 C hr p0 p1 0 _ h)
theorem dX12_enter_0 : decode cX12_enter 0 = .ok (.aload_n 0, 1) := by decide +kernel
theorem dX12_enter_1 : decode cX12_enter 1 = .ok (.iconst 0, 1) := by decide +kernel
theorem dX12_enter_2 : decode cX12_enter 2 = .ok (.putfield 253, 3) := by decide +kernel
theorem dX12_enter_5 : decode cX12_enter 5 = .ok (.aload_n 0, 1) := by decide +kernel
theorem dX12_enter_6 : decode cX12_enter 6 = .ok (.iload_n 1, 1) := by decide +kernel
theorem dX12_enter_7 : decode cX12_enter 7 = .ok (.iconst 0, 1) := by decide +kernel
theorem dX12_enter_8 : decode cX12_enter 8 = .ok (.iconst 3, 1) := by decide +kernel
theorem dX12_enter_9 : decode cX12_enter 9 = .ok (.invokestatic 257, 3) := by decide +kernel
theorem dX12_enter_12 : decode cX12_enter 12 = .ok (.ifCond .eq 11, 3) := by decide +kernel
theorem dX12_enter_15 : decode cX12_enter 15 = .ok (.aload_n 0, 1) := by decide +kernel
theorem dX12_enter_16 : decode cX12_enter 16 = .ok (.iload_n 2, 1) := by decide +kernel
theorem dX12_enter_17 : decode cX12_enter 17 = .ok (.invokevirtual 569, 3) := by decide +kernel
theorem dX12_enter_20 : decode cX12_enter 20 = .ok (.ifCond .ne 7, 3) := by decide +kernel
theorem dX12_enter_23 : decode cX12_enter 23 = .ok (.iconst 1, 1) := by decide +kernel
theorem dX12_enter_24 : decode cX12_enter 24 = .ok (.goto 4, 3) := by decide +kernel
theorem dX12_enter_27 : decode cX12_enter 27 = .ok (.iconst 0, 1) := by decide +kernel
theorem dX12_enter_28 : decode cX12_enter 28 = .ok (.iconst 1, 1) := by decide +kernel
theorem dX12_enter_29 : decode cX12_enter 29 = .ok (.invokevirtual 265, 3) := by decide +kernel
theorem dX12_enter_32 : decode cX12_enter 32 = .ok (.ifCond .ne 27, 3) := by decide +kernel
theorem dX12_enter_35 : decode cX12_enter 35 = .ok (.aload_n 0, 1) := by decide +kernel
theorem dX12_enter_36 : decode cX12_enter 36 = .ok (.iload_n 3, 1) := by decide +kernel
theorem dX12_enter_37 : decode cX12_enter 37 = .ok (.iconst 0, 1) := by decide +kernel
theorem dX12_enter_38 : decode cX12_enter 38 = .ok (.ldc_w 256, 3) := by decide +kernel
theorem dX12_enter_41 : decode cX12_enter 41 = .ok (.invokestatic 257, 3) := by decide +kernel
theorem dX12_enter_44 : decode cX12_enter 44 = .ok (.ifCond .ne 7, 3) := by decide +kernel
theorem dX12_enter_47 : decode cX12_enter 47 = .ok (.iconst 1, 1) := by decide +kernel
theorem dX12_enter_48 : decode cX12_enter 48 = .ok (.goto 4, 3) := by decide +kernel
theorem dX12_enter_51 : decode cX12_enter 51 = .ok (.iconst 0, 1) := by decide +kernel
theorem dX12_enter_52 : decode cX12_enter 52 = .ok (.iconst 2, 1) := by decide +kernel
theorem dX12_enter_53 : decode cX12_enter 53 = .ok (.invokevirtual 265, 3) := by decide +kernel
theorem dX12_enter_56 : decode cX12_enter 56 = .ok (.ifCond .eq 5, 3) := by decide +kernel
theorem dX12_enter_59 : decode cX12_enter 59 = .ok (.iconst 0, 1) := by decide +kernel
theorem dX12_enter_60 : decode cX12_enter 60 = .ok (.ireturn, 1) := by decide +kernel
theorem dX12_enter_61 : decode cX12_enter 61 = .ok (.aload_n 0, 1) := by decide +kernel
theorem dX12_enter_62 : decode cX12_enter 62 = .ok (.getfield 172, 3) := by decide +kernel
theorem dX12_enter_65 : decode cX12_enter 65 = .ok (.iload_n 1, 1) := by decide +kernel
theorem dX12_enter_66 : decode cX12_enter 66 = .ok (.iaload, 1) := by decide +kernel
theorem dX12_enter_67 : decode cX12_enter 67 = .ok (.istore 4, 2) := by decide +kernel
theorem dX12_enter_69 : decode cX12_enter 69 = .ok (.iload 4, 2) := by decide +kernel
theorem dX12_enter_71 : decode cX12_enter 71 = .ok (.bipush 8, 2) := by decide +kernel
theorem dX12_enter_73 : decode cX12_enter 73 = .ok (.if_icmp .ne 5, 3) := by decide +kernel
theorem dX12_enter_76 : decode cX12_enter 76 = .ok (.iconst (-1), 1) := by decide +kernel
theorem dX12_enter_77 : decode cX12_enter 77 = .ok (.ireturn, 1) := by decide +kernel
theorem dX12_enter_78 : decode cX12_enter 78 = .ok (.iconst 0, 1) := by decide +kernel
theorem dX12_enter_79 : decode cX12_enter 79 = .ok (.istore 5, 2) := by decide +kernel
theorem dX12_enter_81 : decode cX12_enter 81 = .ok (.iload 5, 2) := by decide +kernel
theorem dX12_enter_83 : decode cX12_enter 83 = .ok (.iload 4, 2) := by decide +kernel
theorem dX12_enter_85 : decode cX12_enter 85 = .ok (.if_icmp .ge 28, 3) := by decide +kernel
theorem dX12_enter_88 : decode cX12_enter 88 = .ok (.aload_n 0, 1) := by decide +kernel
theorem dX12_enter_89 : decode cX12_enter 89 = .ok (.getfield 175, 3) := by decide +kernel
theorem dX12_enter_92 : decode cX12_enter 92 = .ok (.bipush 8, 2) := by decide +kernel
theorem dX12_enter_94 : decode cX12_enter 94 = .ok (.iload_n 1, 1) := by decide +kernel
theorem dX12_enter_95 : decode cX12_enter 95 = .ok (.imul, 1) := by decide +kernel
theorem dX12_enter_96 : decode cX12_enter 96 = .ok (.iload 5, 2) := by decide +kernel
theorem dX12_enter_98 : decode cX12_enter 98 = .ok (.iadd, 1) := by decide +kernel
theorem dX12_enter_99 : decode cX12_enter 99 = .ok (.iaload, 1) := by decide +kernel
theorem dX12_enter_100 : decode cX12_enter 100 = .ok (.iload_n 2, 1) := by decide +kernel
theorem dX12_enter_101 : decode cX12_enter 101 = .ok (.if_icmp .ne 6, 3) := by decide +kernel
theorem dX12_enter_104 : decode cX12_enter 104 = .ok (.bipush (-2), 2) := by decide +kernel
theorem dX12_enter_106 : decode cX12_enter 106 = .ok (.ireturn, 1) := by decide +kernel
theorem dX12_enter_107 : decode cX12_enter 107 = .ok (.iinc 5 1, 3) := by decide +kernel
theorem dX12_enter_110 : decode cX12_enter 110 = .ok (.goto (-29), 3) := by decide +kernel
theorem dX12_enter_113 : decode cX12_enter 113 = .ok (.aload_n 0, 1) := by decide +kernel
theorem dX12_enter_114 : decode cX12_enter 114 = .ok (.getfield 175, 3) := by decide +kernel
theorem dX12_enter_117 : decode cX12_enter 117 = .ok (.bipush 8, 2) := by decide +kernel
theorem dX12_enter_119 : decode cX12_enter 119 = .ok (.iload_n 1, 1) := by decide +kernel
theorem dX12_enter_120 : decode cX12_enter 120 = .ok (.imul, 1) := by decide +kernel
theorem dX12_enter_121 : decode cX12_enter 121 = .ok (.iload 4, 2) := by decide +kernel
theorem dX12_enter_123 : decode cX12_enter 123 = .ok (.iadd, 1) := by decide +kernel
theorem dX12_enter_124 : decode cX12_enter 124 = .ok (.iload_n 2, 1) := by decide +kernel
theorem dX12_enter_125 : decode cX12_enter 125 = .ok (.iastore, 1) := by decide +kernel
theorem dX12_enter_126 : decode cX12_enter 126 = .ok (.aload_n 0, 1) := by decide +kernel
theorem dX12_enter_127 : decode cX12_enter 127 = .ok (.getfield 178, 3) := by decide +kernel
theorem dX12_enter_130 : decode cX12_enter 130 = .ok (.bipush 8, 2) := by decide +kernel
theorem dX12_enter_132 : decode cX12_enter 132 = .ok (.iload_n 1, 1) := by decide +kernel
theorem dX12_enter_133 : decode cX12_enter 133 = .ok (.imul, 1) := by decide +kernel
theorem dX12_enter_134 : decode cX12_enter 134 = .ok (.iload 4, 2) := by decide +kernel
theorem dX12_enter_136 : decode cX12_enter 136 = .ok (.iadd, 1) := by decide +kernel
theorem dX12_enter_137 : decode cX12_enter 137 = .ok (.iload_n 3, 1) := by decide +kernel
theorem dX12_enter_138 : decode cX12_enter 138 = .ok (.iastore, 1) := by decide +kernel
theorem dX12_enter_139 : decode cX12_enter 139 = .ok (.aload_n 0, 1) := by decide +kernel
theorem dX12_enter_140 : decode cX12_enter 140 = .ok (.getfield 172, 3) := by decide +kernel
theorem dX12_enter_143 : decode cX12_enter 143 = .ok (.iload_n 1, 1) := by decide +kernel
theorem dX12_enter_144 : decode cX12_enter 144 = .ok (.dup2, 1) := by decide +kernel
theorem dX12_enter_145 : decode cX12_enter 145 = .ok (.iaload, 1) := by decide +kernel
theorem dX12_enter_146 : decode cX12_enter 146 = .ok (.iconst 1, 1) := by decide +kernel
theorem dX12_enter_147 : decode cX12_enter 147 = .ok (.iadd, 1) := by decide +kernel
theorem dX12_enter_148 : decode cX12_enter 148 = .ok (.iastore, 1) := by decide +kernel
theorem dX12_enter_149 : decode cX12_enter 149 = .ok (.iload 4, 2) := by decide +kernel
theorem dX12_enter_151 : decode cX12_enter 151 = .ok (.iconst 1, 1) := by decide +kernel
theorem dX12_enter_152 : decode cX12_enter 152 = .ok (.iadd, 1) := by decide +kernel
theorem dX12_enter_153 : decode cX12_enter 153 = .ok (.ireturn, 1) := by decide +kernel
def L_M_enter_81 (k113 : Int32 → Int32 → Int32 → Int32 → CS → Option (Int32 × CS)) (x1 : Int32) (x2 : Int32) (x3 : Int32) (x4 : Int32) : Nat → Int32 → CS → Option (Int32 × CS)
  | 0, _, _ => none
  | n + 1, x5, σ => if x4 ≤ x5 then k113 x1 x2 x3 x4 σ else gix ((8 * x1) + x5) 32 (if (rd σ 80 ((8 * x1) + x5)) = x2 then some ((-2), σ) else (L_M_enter_81 k113 x1 x2 x3 x4 n) (x5 + 1) σ)
set_option maxHeartbeats 4000000 in
set_option maxRecDepth 100000 in
theorem w_M_enter_81 (C : Cx g p s m args meth c A 6 cX12_enter yX12_enter.cls) (hr : meth.sig.returnType = (some .int))  {res : Int32 × CS}  (x1 : Int32) (x2 : Int32) (x3 : Int32) (x4 : Int32) {k113 : Int32 → Int32 → Int32 → Int32 → CS → Option (Int32 × CS)} (hk113 : ∀ (x1 : Int32) (x2 : Int32) (x3 : Int32) (x4 : Int32) (σ : CS), k113 x1 x2 x3 x4 σ = some res → NMI g p l e s m args below meth c A 2 43 6 am Rr res σ [(0, .ref (am 112)), (1, .int x1), (2, .int x2), (3, .int x3), (4, .int x4)] 113 []) : ∀ (n : Nat) (x5 : Int32) (σ : CS), L_M_enter_81 k113 x1 x2 x3 x4 n x5 σ = some res → NMI g p l e s m args below meth c A 2 43 6 am Rr res σ [(0, .ref (am 112)), (1, .int x1), (2, .int x2), (3, .int x3), (4, .int x4), (5, .int x5)] 81 [] := by
  intro n
  induction n with
  | zero =>
    intro x5 σ h
    exact absurd (show (none : Option (Int32 × CS)) = some res from h) (by intro h9; cases h9)
  | succ n ih =>
    intro x5 σ h
    rw [L_M_enter_81] at h
    refine nw_iload C dX12_enter_81 5 rfl ?_
    refine nw_iload C dX12_enter_83 4 rfl ?_
    refine nw_icmp_ge (tgt := 113) C dX12_enter_85 (by decide) h (fun _ h => ?_) (fun _ h => ?_)
    · exact nw_lv (lv' := [(0, .ref (am 112)), (1, .int x1), (2, .int x2), (3, .int x3), (4, .int x4)]) [0, 1, 2, 3, 4] rfl (hk113 x1 x2 x3 x4 _ h)
    · refine nw_aload_n C dX12_enter_88 rfl 0 rfl ?_
      refine nw_get (v := .ref (am 80)) C in_X12 0 ml_O rfl 80 (by decide) tw_1653 rfl mf_80 dX12_enter_89 ?_
      refine nw_bipush (v := 8) C dX12_enter_92 (by decide) ?_
      refine nw_iload_n C dX12_enter_94 rfl 1 rfl ?_
      refine nw_imul C dX12_enter_95 ?_
      refine nw_iload C dX12_enter_96 5 rfl ?_
      refine nw_iadd C dX12_enter_98 ?_
      refine nw_iald C 54 ml_80 dX12_enter_99 h (fun h => ?_)
      refine nw_iload_n C dX12_enter_100 rfl 2 rfl ?_
      refine nw_icmp_ne (tgt := 107) C dX12_enter_101 (by decide) h (fun _ h => ?_) (fun _ h => ?_)
      · refine nw_bipush (v := (-2)) C dX12_enter_104 (by decide) ?_
        exact nm_iret C hr dX12_enter_106 h
      · refine nw_iinc (lv' := [(5, .int (x5 + 1)), (0, .ref (am 112)), (1, .int x1), (2, .int x2), (3, .int x3), (4, .int x4)]) C (x5 + 1) dX12_enter_107 5 rfl rfl (by decide) rfl ?_
        refine nw_goto (tgt := 81) C dX12_enter_110 (by decide) ?_
        exact nw_lv (lv' := [(0, .ref (am 112)), (1, .int x1), (2, .int x2), (3, .int x3), (4, .int x4), (5, .int (x5 + 1))]) [1, 2, 3, 4, 5, 0] rfl (ih (x5 + 1) _ h)
def B_M_enter_113   (x1 : Int32) (x2 : Int32) (x3 : Int32) (x4 : Int32) (σ : CS) : Option (Int32 × CS) := gix ((8 * x1) + x4) 32 (gix ((8 * x1) + x4) 32 (gix x1 4 (gix x1 4 (some ((x4 + 1), (wr (wr (wr σ 80 ((8 * x1) + x4) x2) 81 ((8 * x1) + x4) x3) 79 x1 ((rd σ 79 x1) + 1)))))))
set_option maxHeartbeats 4000000 in
set_option maxRecDepth 100000 in
theorem w_M_enter_113 (C : Cx g p s m args meth c A 6 cX12_enter yX12_enter.cls) (hr : meth.sig.returnType = (some .int))  {res : Int32 × CS}   (x1 : Int32) (x2 : Int32) (x3 : Int32) (x4 : Int32)  (σ : CS) (h : B_M_enter_113 x1 x2 x3 x4 σ = some res) : NMI g p l e s m args below meth c A 2 43 6 am Rr res σ [(0, .ref (am 112)), (1, .int x1), (2, .int x2), (3, .int x3), (4, .int x4)] 113 [] := by
  unfold B_M_enter_113 at h
  refine nw_aload_n C dX12_enter_113 rfl 0 rfl ?_
  refine nw_get (v := .ref (am 80)) C in_X12 0 ml_O rfl 80 (by decide) tw_1653 rfl mf_80 dX12_enter_114 ?_
  refine nw_bipush (v := 8) C dX12_enter_117 (by decide) ?_
  refine nw_iload_n C dX12_enter_119 rfl 1 rfl ?_
  refine nw_imul C dX12_enter_120 ?_
  refine nw_iload C dX12_enter_121 4 rfl ?_
  refine nw_iadd C dX12_enter_123 ?_
  refine nw_iload_n C dX12_enter_124 rfl 2 rfl ?_
  refine nw_iast C 54 ml_80 dX12_enter_125 h ms_80 (fun h => ?_)
  refine nw_aload_n C dX12_enter_126 rfl 0 rfl ?_
  refine nw_get (v := .ref (am 81)) C in_X12 0 ml_O rfl 81 (by decide) tw_1654 rfl mf_81 dX12_enter_127 ?_
  refine nw_bipush (v := 8) C dX12_enter_130 (by decide) ?_
  refine nw_iload_n C dX12_enter_132 rfl 1 rfl ?_
  refine nw_imul C dX12_enter_133 ?_
  refine nw_iload C dX12_enter_134 4 rfl ?_
  refine nw_iadd C dX12_enter_136 ?_
  refine nw_iload_n C dX12_enter_137 rfl 3 rfl ?_
  refine nw_iast C 55 ml_81 dX12_enter_138 h ms_81 (fun h => ?_)
  refine nw_aload_n C dX12_enter_139 rfl 0 rfl ?_
  refine nw_get (v := .ref (am 79)) C in_X12 0 ml_O rfl 79 (by decide) tw_1652 rfl mf_79 dX12_enter_140 ?_
  refine nw_iload_n C dX12_enter_143 rfl 1 rfl ?_
  refine nw_dup2 C dX12_enter_144 rfl rfl ?_
  refine nw_iald C 53 ml_79 dX12_enter_145 h (fun h => ?_)
  refine nw_st (st' := [.int (rd σ 79 x1), .int x1, .ref (am 79)]) rfl ?_
  refine nw_iconst (v := 1) C dX12_enter_146 (by decide) ?_
  refine nw_iadd C dX12_enter_147 ?_
  refine nw_iast C 53 ml_79 dX12_enter_148 h ms_79 (fun h => ?_)
  refine nw_iload C dX12_enter_149 4 rfl ?_
  refine nw_iconst (v := 1) C dX12_enter_151 (by decide) ?_
  refine nw_iadd C dX12_enter_152 ?_
  exact nm_iret C hr dX12_enter_153 h
def B_M_enter_52   (x1 : Int32) (x2 : Int32) (x3 : Int32) (z1 : Int32) (σ : CS) : Option (Int32 × CS) := bnd (f_M_bad z1 2 σ) (fun r53 σ53 => if r53 = 0 then gix x1 4 (if (rd σ53 79 x1) = 8 then some ((-1), σ53) else L_M_enter_81 (B_M_enter_113) x1 x2 x3 (rd σ53 79 x1) FU 0 σ53) else some (0, σ53))
set_option maxHeartbeats 4000000 in
set_option maxRecDepth 100000 in
theorem w_M_enter_52 (C : Cx g p s m args meth c A 6 cX12_enter yX12_enter.cls) (hr : meth.sig.returnType = (some .int))  {res : Int32 × CS}   (x1 : Int32) (x2 : Int32) (x3 : Int32) (z1 : Int32)  (σ : CS) (h : B_M_enter_52 x1 x2 x3 z1 σ = some res) : NMI g p l e s m args below meth c A 2 43 6 am Rr res σ [(0, .ref (am 112)), (1, .int x1), (2, .int x2), (3, .int x3)] 52 [.int z1, .ref (am 112)] := by
  unfold B_M_enter_52 at h
  refine nw_iconst (v := 2) C dX12_enter_52 (by decide) ?_
  refine nm_callVI (q0 := 0) (As := [.int z1, .int 2]) (rest := []) C h (fun _ _ e => c_M_bad e) tw_1924 kv_X12_bad ml_O rfl ⟨Nat.le_of_ble_eq_true rfl, Nat.le_of_ble_eq_true rfl⟩ rfl dX12_enter_53 rfl (Nat.le_of_ble_eq_true rfl) (fun r53 σ53 h => ?_)
  refine nw_if_eq (tgt := 61) C dX12_enter_56 (by decide) h (fun _ h => ?_) (fun _ h => ?_)
  · refine nw_aload_n C dX12_enter_61 rfl 0 rfl ?_
    refine nw_get (v := .ref (am 79)) C in_X12 0 ml_O rfl 79 (by decide) tw_1652 rfl mf_79 dX12_enter_62 ?_
    refine nw_iload_n C dX12_enter_65 rfl 1 rfl ?_
    refine nw_iald C 53 ml_79 dX12_enter_66 h (fun h => ?_)
    refine nw_istore (lv' := [(4, .int (rd σ53 79 x1)), (0, .ref (am 112)), (1, .int x1), (2, .int x2), (3, .int x3)]) C dX12_enter_67 (by decide) rfl ?_
    refine nw_iload C dX12_enter_69 0 rfl ?_
    refine nw_bipush (v := 8) C dX12_enter_71 (by decide) ?_
    refine nw_icmp_ne (tgt := 78) C dX12_enter_73 (by decide) h (fun _ h => ?_) (fun _ h => ?_)
    · refine nw_iconst (v := (-1)) C dX12_enter_76 (by decide) ?_
      exact nm_iret C hr dX12_enter_77 h
    · refine nw_iconst (v := 0) C dX12_enter_78 (by decide) ?_
      refine nw_istore (lv' := [(5, .int 0), (4, .int (rd σ53 79 x1)), (0, .ref (am 112)), (1, .int x1), (2, .int x2), (3, .int x3)]) C dX12_enter_79 (by decide) rfl ?_
      exact nw_lv (lv' := [(0, .ref (am 112)), (1, .int x1), (2, .int x2), (3, .int x3), (4, .int (rd σ53 79 x1)), (5, .int 0)]) [2, 3, 4, 5, 1, 0] rfl (w_M_enter_81 C hr x1 x2 x3 (rd σ53 79 x1) (fun x1_ x2_ x3_ x4_ σ_ h_ => w_M_enter_113 C hr x1_ x2_ x3_ x4_ σ_ h_) FU 0 _ h)
  · refine nw_iconst (v := 0) C dX12_enter_59 (by decide) ?_
    exact nm_iret C hr dX12_enter_60 h
def B_M_enter_28   (x1 : Int32) (x2 : Int32) (x3 : Int32) (z1 : Int32) (σ : CS) : Option (Int32 × CS) := bnd (f_M_bad z1 1 σ) (fun r29 σ29 => if r29 = 0 then bnd (f_M_in x3 0 100000 σ29) (fun r41 σ41 => if r41 = 0 then B_M_enter_52 x1 x2 x3 1 σ41 else B_M_enter_52 x1 x2 x3 0 σ41) else some (0, σ29))
set_option maxHeartbeats 4000000 in
set_option maxRecDepth 100000 in
theorem w_M_enter_28 (C : Cx g p s m args meth c A 6 cX12_enter yX12_enter.cls) (hr : meth.sig.returnType = (some .int))  {res : Int32 × CS}   (x1 : Int32) (x2 : Int32) (x3 : Int32) (z1 : Int32)  (σ : CS) (h : B_M_enter_28 x1 x2 x3 z1 σ = some res) : NMI g p l e s m args below meth c A 2 43 6 am Rr res σ [(0, .ref (am 112)), (1, .int x1), (2, .int x2), (3, .int x3)] 28 [.int z1, .ref (am 112)] := by
  unfold B_M_enter_28 at h
  refine nw_iconst (v := 1) C dX12_enter_28 (by decide) ?_
  refine nm_callVI (q0 := 0) (As := [.int z1, .int 1]) (rest := []) C h (fun _ _ e => c_M_bad e) tw_1924 kv_X12_bad ml_O rfl ⟨Nat.le_of_ble_eq_true rfl, Nat.le_of_ble_eq_true rfl⟩ rfl dX12_enter_29 rfl (Nat.le_of_ble_eq_true rfl) (fun r29 σ29 h => ?_)
  refine nw_if_ne (tgt := 59) C dX12_enter_32 (by decide) h (fun _ h => ?_) (fun _ h => ?_)
  · refine nw_aload_n C dX12_enter_35 rfl 0 rfl ?_
    refine nw_iload_n C dX12_enter_36 rfl 3 rfl ?_
    refine nw_iconst (v := 0) C dX12_enter_37 (by decide) ?_
    refine nw_ldcw (v := 100000) C tw_1939 dX12_enter_38 ?_
    refine nm_callSI  (As := [.int x3, .int 0, .int 100000]) (rest := [.ref (am 112)]) C h (fun _ _ e => c_M_in e) tw_1918 ks_X12_in ⟨Nat.le_of_ble_eq_true rfl, Nat.le_of_ble_eq_true rfl⟩ rfl dX12_enter_41 rfl (Nat.le_of_ble_eq_true rfl) (fun r41 σ41 h => ?_)
    refine nw_if_ne (tgt := 51) C dX12_enter_44 (by decide) h (fun _ h => ?_) (fun _ h => ?_)
    · refine nw_iconst (v := 1) C dX12_enter_47 (by decide) ?_
      refine nw_goto (tgt := 52) C dX12_enter_48 (by decide) ?_
      exact nw_lv (lv' := [(0, .ref (am 112)), (1, .int x1), (2, .int x2), (3, .int x3)]) [0, 1, 2, 3] rfl (w_M_enter_52 C hr x1 x2 x3 1 _ h)
    · refine nw_iconst (v := 0) C dX12_enter_51 (by decide) ?_
      exact nw_lv (lv' := [(0, .ref (am 112)), (1, .int x1), (2, .int x2), (3, .int x3)]) [0, 1, 2, 3] rfl (w_M_enter_52 C hr x1 x2 x3 0 _ h)
  · refine nw_iconst (v := 0) C dX12_enter_59 (by decide) ?_
    exact nm_iret C hr dX12_enter_60 h
def f_M_enter (p0 : Int32) (p1 : Int32) (p2 : Int32) (σ : CS) : Option (Int32 × CS) := bnd (f_M_in p0 0 3 (sF σ 0 0)) (fun r9 σ9 => if r9 = 0 then B_M_enter_28 p0 p1 p2 1 σ9 else bnd (f_M_isCase p1 σ9) (fun r17 σ17 => if r17 = 0 then B_M_enter_28 p0 p1 p2 1 σ17 else B_M_enter_28 p0 p1 p2 0 σ17))
set_option maxHeartbeats 4000000 in
set_option maxRecDepth 100000 in
theorem c_M_enter {l : Launch} {g : EG} {am : Nat → Nat} {Rr : va_W} {σ σ' : CS} {r : Int32} {p0 : Int32} {p1 : Int32} {p2 : Int32}  (h : f_M_enter p0 p1 p2 σ = some (r, σ')) : CmI l g yX12_enter (.code yX12_enter cX12_enter 6 (some .int)) 2 43 am Rr σ [.ref (am 112), .int p0, .int p1, .int p2] r σ' := by
  refine Ct.of rfl (by decide) (Nat.le_of_ble_eq_true rfl) ?_
  intro p e s m args below meth c A C hr
  show NMI g p l e s m args below meth c A 2 43 6 am Rr (r, σ') σ [(0, .ref (am 112)), (1, .int p0), (2, .int p1), (3, .int p2)] 0 []
  unfold f_M_enter at h
  refine nw_aload_n C dX12_enter_0 rfl 0 rfl ?_
  refine nw_iconst (v := 0) C dX12_enter_1 (by decide) ?_
  refine nw_put (ty := .int) C in_X12 0 ml_O rfl 0 (by decide) tyX12 tyX12_ok nmX12 tw_1573 rfl rfl (by decide +kernel) rfl rfl (Nat.le_of_ble_eq_true rfl) dX12_enter_2 ms_0 ?_
  refine nw_aload_n C dX12_enter_5 rfl 0 rfl ?_
  refine nw_iload_n C dX12_enter_6 rfl 1 rfl ?_
  refine nw_iconst (v := 0) C dX12_enter_7 (by decide) ?_
  refine nw_iconst (v := 3) C dX12_enter_8 (by decide) ?_
  refine nm_callSI  (As := [.int p0, .int 0, .int 3]) (rest := [.ref (am 112)]) C h (fun _ _ e => c_M_in e) tw_1918 ks_X12_in ⟨Nat.le_of_ble_eq_true rfl, Nat.le_of_ble_eq_true rfl⟩ rfl dX12_enter_9 rfl (Nat.le_of_ble_eq_true rfl) (fun r9 σ9 h => ?_)
  refine nw_if_eq (tgt := 23) C dX12_enter_12 (by decide) h (fun _ h => ?_) (fun _ h => ?_)
  · refine nw_iconst (v := 1) C dX12_enter_23 (by decide) ?_
    refine nw_goto (tgt := 28) C dX12_enter_24 (by decide) ?_
    exact nw_lv (lv' := [(0, .ref (am 112)), (1, .int p0), (2, .int p1), (3, .int p2)]) [0, 1, 2, 3] rfl (w_M_enter_28 C hr p0 p1 p2 1 _ h)
  · refine nw_aload_n C dX12_enter_15 rfl 0 rfl ?_
    refine nw_iload_n C dX12_enter_16 rfl 2 rfl ?_
    refine nm_callVI (q0 := 0) (As := [.int p1]) (rest := [.ref (am 112)]) C h (fun _ _ e => c_M_isCase e) tw_2251 kv_X12_isCase ml_O rfl ⟨Nat.le_of_ble_eq_true rfl, Nat.le_of_ble_eq_true rfl⟩ rfl dX12_enter_17 rfl (Nat.le_of_ble_eq_true rfl) (fun r17 σ17 h => ?_)
    refine nw_if_ne (tgt := 27) C dX12_enter_20 (by decide) h (fun _ h => ?_) (fun _ h => ?_)
    · refine nw_iconst (v := 1) C dX12_enter_23 (by decide) ?_
      refine nw_goto (tgt := 28) C dX12_enter_24 (by decide) ?_
      exact nw_lv (lv' := [(0, .ref (am 112)), (1, .int p0), (2, .int p1), (3, .int p2)]) [0, 1, 2, 3] rfl (w_M_enter_28 C hr p0 p1 p2 1 _ h)
    · refine nw_iconst (v := 0) C dX12_enter_27 (by decide) ?_
      exact nw_lv (lv' := [(0, .ref (am 112)), (1, .int p0), (2, .int p1), (3, .int p2)]) [0, 1, 2, 3] rfl (w_M_enter_28 C hr p0 p1 p2 0 _ h)
theorem dX12_placeIn_0 : decode cX12_placeIn 0 = .ok (.iconst 0, 1) := by decide +kernel
theorem dX12_placeIn_1 : decode cX12_placeIn 1 = .ok (.istore_n 3, 1) := by decide +kernel
theorem dX12_placeIn_2 : decode cX12_placeIn 2 = .ok (.iload_n 3, 1) := by decide +kernel
theorem dX12_placeIn_3 : decode cX12_placeIn 3 = .ok (.aload_n 0, 1) := by decide +kernel
theorem dX12_placeIn_4 : decode cX12_placeIn 4 = .ok (.getfield 172, 3) := by decide +kernel
theorem dX12_placeIn_7 : decode cX12_placeIn 7 = .ok (.iload_n 1, 1) := by decide +kernel
theorem dX12_placeIn_8 : decode cX12_placeIn 8 = .ok (.iaload, 1) := by decide +kernel
theorem dX12_placeIn_9 : decode cX12_placeIn 9 = .ok (.if_icmp .ge 26, 3) := by decide +kernel
theorem dX12_placeIn_12 : decode cX12_placeIn 12 = .ok (.aload_n 0, 1) := by decide +kernel
theorem dX12_placeIn_13 : decode cX12_placeIn 13 = .ok (.getfield 175, 3) := by decide +kernel
theorem dX12_placeIn_16 : decode cX12_placeIn 16 = .ok (.bipush 8, 2) := by decide +kernel
theorem dX12_placeIn_18 : decode cX12_placeIn 18 = .ok (.iload_n 1, 1) := by decide +kernel
theorem dX12_placeIn_19 : decode cX12_placeIn 19 = .ok (.imul, 1) := by decide +kernel
theorem dX12_placeIn_20 : decode cX12_placeIn 20 = .ok (.iload_n 3, 1) := by decide +kernel
theorem dX12_placeIn_21 : decode cX12_placeIn 21 = .ok (.iadd, 1) := by decide +kernel
theorem dX12_placeIn_22 : decode cX12_placeIn 22 = .ok (.iaload, 1) := by decide +kernel
theorem dX12_placeIn_23 : decode cX12_placeIn 23 = .ok (.iload_n 2, 1) := by decide +kernel
theorem dX12_placeIn_24 : decode cX12_placeIn 24 = .ok (.if_icmp .ne 5, 3) := by decide +kernel
theorem dX12_placeIn_27 : decode cX12_placeIn 27 = .ok (.iload_n 3, 1) := by decide +kernel
theorem dX12_placeIn_28 : decode cX12_placeIn 28 = .ok (.ireturn, 1) := by decide +kernel
theorem dX12_placeIn_29 : decode cX12_placeIn 29 = .ok (.iinc 3 1, 3) := by decide +kernel
theorem dX12_placeIn_32 : decode cX12_placeIn 32 = .ok (.goto (-30), 3) := by decide +kernel
theorem dX12_placeIn_35 : decode cX12_placeIn 35 = .ok (.iconst (-1), 1) := by decide +kernel
theorem dX12_placeIn_36 : decode cX12_placeIn 36 = .ok (.ireturn, 1) := by decide +kernel
def L_M_placeIn_2  (x1 : Int32) (x2 : Int32) : Nat → Int32 → CS → Option (Int32 × CS)
  | 0, _, _ => none
  | n + 1, x3, σ => gix x1 4 (if (rd σ 79 x1) ≤ x3 then some ((-1), σ) else gix ((8 * x1) + x3) 32 (if (rd σ 80 ((8 * x1) + x3)) = x2 then some (x3, σ) else (L_M_placeIn_2 x1 x2 n) (x3 + 1) σ))
set_option maxHeartbeats 4000000 in
set_option maxRecDepth 100000 in
theorem w_M_placeIn_2 (C : Cx g p s m args meth c A 4 cX12_placeIn yX12_placeIn.cls) (hr : meth.sig.returnType = (some .int))  {res : Int32 × CS}  (x1 : Int32) (x2 : Int32)  : ∀ (n : Nat) (x3 : Int32) (σ : CS), L_M_placeIn_2 x1 x2 n x3 σ = some res → NMI g p l e s m args below meth c A 0 0 4 am Rr res σ [(0, .ref (am 112)), (1, .int x1), (2, .int x2), (3, .int x3)] 2 [] := by
  intro n
  induction n with
  | zero =>
    intro x3 σ h
    exact absurd (show (none : Option (Int32 × CS)) = some res from h) (by intro h9; cases h9)
  | succ n ih =>
    intro x3 σ h
    rw [L_M_placeIn_2] at h
    refine nw_iload_n C dX12_placeIn_2 rfl 3 rfl ?_
    refine nw_aload_n C dX12_placeIn_3 rfl 0 rfl ?_
    refine nw_get (v := .ref (am 79)) C in_X12 0 ml_O rfl 79 (by decide) tw_1652 rfl mf_79 dX12_placeIn_4 ?_
    refine nw_iload_n C dX12_placeIn_7 rfl 1 rfl ?_
    refine nw_iald C 53 ml_79 dX12_placeIn_8 h (fun h => ?_)
    refine nw_icmp_ge (tgt := 35) C dX12_placeIn_9 (by decide) h (fun _ h => ?_) (fun _ h => ?_)
    · refine nw_iconst (v := (-1)) C dX12_placeIn_35 (by decide) ?_
      exact nm_iret C hr dX12_placeIn_36 h
    · refine nw_aload_n C dX12_placeIn_12 rfl 0 rfl ?_
      refine nw_get (v := .ref (am 80)) C in_X12 0 ml_O rfl 80 (by decide) tw_1653 rfl mf_80 dX12_placeIn_13 ?_
      refine nw_bipush (v := 8) C dX12_placeIn_16 (by decide) ?_
      refine nw_iload_n C dX12_placeIn_18 rfl 1 rfl ?_
      refine nw_imul C dX12_placeIn_19 ?_
      refine nw_iload_n C dX12_placeIn_20 rfl 3 rfl ?_
      refine nw_iadd C dX12_placeIn_21 ?_
      refine nw_iald C 54 ml_80 dX12_placeIn_22 h (fun h => ?_)
      refine nw_iload_n C dX12_placeIn_23 rfl 2 rfl ?_
      refine nw_icmp_ne (tgt := 29) C dX12_placeIn_24 (by decide) h (fun _ h => ?_) (fun _ h => ?_)
      · refine nw_iload_n C dX12_placeIn_27 rfl 3 rfl ?_
        exact nm_iret C hr dX12_placeIn_28 h
      · refine nw_iinc (lv' := [(3, .int (x3 + 1)), (0, .ref (am 112)), (1, .int x1), (2, .int x2)]) C (x3 + 1) dX12_placeIn_29 3 rfl rfl (by decide) rfl ?_
        refine nw_goto (tgt := 2) C dX12_placeIn_32 (by decide) ?_
        exact nw_lv (lv' := [(0, .ref (am 112)), (1, .int x1), (2, .int x2), (3, .int (x3 + 1))]) [1, 2, 3, 0] rfl (ih (x3 + 1) _ h)
def f_M_placeIn (p0 : Int32) (p1 : Int32) (σ : CS) : Option (Int32 × CS) := L_M_placeIn_2 p0 p1 FU 0 σ
set_option maxHeartbeats 4000000 in
set_option maxRecDepth 100000 in
theorem c_M_placeIn {l : Launch} {g : EG} {am : Nat → Nat} {Rr : va_W} {σ σ' : CS} {r : Int32} {p0 : Int32} {p1 : Int32}  (h : f_M_placeIn p0 p1 σ = some (r, σ')) : CmI l g yX12_placeIn (.code yX12_placeIn cX12_placeIn 4 (some .int)) 0 0 am Rr σ [.ref (am 112), .int p0, .int p1] r σ' := by
  refine Ct.of rfl (by decide) (Nat.le_of_ble_eq_true rfl) ?_
  intro p e s m args below meth c A C hr
  show NMI g p l e s m args below meth c A 0 0 4 am Rr (r, σ') σ [(0, .ref (am 112)), (1, .int p0), (2, .int p1)] 0 []
  unfold f_M_placeIn at h
  refine nw_iconst (v := 0) C dX12_placeIn_0 (by decide) ?_
  refine nw_istore_n (lv' := [(3, .int 0), (0, .ref (am 112)), (1, .int p0), (2, .int p1)]) C dX12_placeIn_1 rfl (by decide) rfl ?_
  exact nw_lv (lv' := [(0, .ref (am 112)), (1, .int p0), (2, .int p1), (3, .int 0)]) [1, 2, 3, 0] rfl (w_M_placeIn_2 C hr p0 p1 FU 0 _ h)
theorem dX12_isListed_0 : decode cX12_isListed 0 = .ok (.iconst 0, 1) := by decide +kernel
theorem dX12_isListed_1 : decode cX12_isListed 1 = .ok (.istore_n 2, 1) := by decide +kernel
theorem dX12_isListed_2 : decode cX12_isListed 2 = .ok (.iload_n 2, 1) := by decide +kernel
theorem dX12_isListed_3 : decode cX12_isListed 3 = .ok (.iconst 4, 1) := by decide +kernel
theorem dX12_isListed_4 : decode cX12_isListed 4 = .ok (.if_icmp .ge 20, 3) := by decide +kernel
theorem dX12_isListed_7 : decode cX12_isListed 7 = .ok (.aload_n 0, 1) := by decide +kernel
theorem dX12_isListed_8 : decode cX12_isListed 8 = .ok (.iload_n 2, 1) := by decide +kernel
theorem dX12_isListed_9 : decode cX12_isListed 9 = .ok (.iload_n 1, 1) := by decide +kernel
theorem dX12_isListed_10 : decode cX12_isListed 10 = .ok (.invokevirtual 597, 3) := by decide +kernel
theorem dX12_isListed_13 : decode cX12_isListed 13 = .ok (.ifCond .lt 5, 3) := by decide +kernel
theorem dX12_isListed_16 : decode cX12_isListed 16 = .ok (.iconst 1, 1) := by decide +kernel
theorem dX12_isListed_17 : decode cX12_isListed 17 = .ok (.ireturn, 1) := by decide +kernel
theorem dX12_isListed_18 : decode cX12_isListed 18 = .ok (.iinc 2 1, 3) := by decide +kernel
theorem dX12_isListed_21 : decode cX12_isListed 21 = .ok (.goto (-19), 3) := by decide +kernel
theorem dX12_isListed_24 : decode cX12_isListed 24 = .ok (.iconst 0, 1) := by decide +kernel
theorem dX12_isListed_25 : decode cX12_isListed 25 = .ok (.ireturn, 1) := by decide +kernel
def L_M_isListed_2  (x1 : Int32) : Nat → Int32 → CS → Option (Int32 × CS)
  | 0, _, _ => none
  | n + 1, x2, σ => if 4 ≤ x2 then some (0, σ) else bnd (f_M_placeIn x2 x1 σ) (fun r10 σ10 => if r10 < 0 then (L_M_isListed_2 x1 n) (x2 + 1) σ10 else some (1, σ10))
set_option maxHeartbeats 4000000 in
set_option maxRecDepth 100000 in
theorem w_M_isListed_2 (C : Cx g p s m args meth c A 3 cX12_isListed yX12_isListed.cls) (hr : meth.sig.returnType = (some .boolean))  {res : Int32 × CS}  (x1 : Int32)  : ∀ (n : Nat) (x2 : Int32) (σ : CS), L_M_isListed_2 x1 n x2 σ = some res → NMI g p l e s m args below meth c A 1 23 3 am Rr res σ [(0, .ref (am 112)), (1, .int x1), (2, .int x2)] 2 [] := by
  intro n
  induction n with
  | zero =>
    intro x2 σ h
    exact absurd (show (none : Option (Int32 × CS)) = some res from h) (by intro h9; cases h9)
  | succ n ih =>
    intro x2 σ h
    rw [L_M_isListed_2] at h
    refine nw_iload_n C dX12_isListed_2 rfl 2 rfl ?_
    refine nw_iconst (v := 4) C dX12_isListed_3 (by decide) ?_
    refine nw_icmp_ge (tgt := 24) C dX12_isListed_4 (by decide) h (fun _ h => ?_) (fun _ h => ?_)
    · refine nw_iconst (v := 0) C dX12_isListed_24 (by decide) ?_
      exact nm_zret C hr (Or.inl rfl) dX12_isListed_25 h
    · refine nw_aload_n C dX12_isListed_7 rfl 0 rfl ?_
      refine nw_iload_n C dX12_isListed_8 rfl 2 rfl ?_
      refine nw_iload_n C dX12_isListed_9 rfl 1 rfl ?_
      refine nm_callVI (q0 := 0) (As := [.int x2, .int x1]) (rest := []) C h (fun _ _ e => c_M_placeIn e) tw_2319 kv_X12_placeIn ml_O rfl ⟨Nat.le_of_ble_eq_true rfl, Nat.le_of_ble_eq_true rfl⟩ rfl dX12_isListed_10 rfl (Nat.le_of_ble_eq_true rfl) (fun r10 σ10 h => ?_)
      refine nw_if_lt (tgt := 18) C dX12_isListed_13 (by decide) h (fun _ h => ?_) (fun _ h => ?_)
      · refine nw_iinc (lv' := [(2, .int (x2 + 1)), (0, .ref (am 112)), (1, .int x1)]) C (x2 + 1) dX12_isListed_18 2 rfl rfl (by decide) rfl ?_
        refine nw_goto (tgt := 2) C dX12_isListed_21 (by decide) ?_
        exact nw_lv (lv' := [(0, .ref (am 112)), (1, .int x1), (2, .int (x2 + 1))]) [1, 2, 0] rfl (ih (x2 + 1) _ h)
      · refine nw_iconst (v := 1) C dX12_isListed_16 (by decide) ?_
        exact nm_zret C hr (Or.inr rfl) dX12_isListed_17 h
def f_M_isListed (p0 : Int32) (σ : CS) : Option (Int32 × CS) := L_M_isListed_2 p0 FU 0 σ
set_option maxHeartbeats 4000000 in
set_option maxRecDepth 100000 in
theorem c_M_isListed {l : Launch} {g : EG} {am : Nat → Nat} {Rr : va_W} {σ σ' : CS} {r : Int32} {p0 : Int32}  (h : f_M_isListed p0 σ = some (r, σ')) : CmI l g yX12_isListed (.code yX12_isListed cX12_isListed 3 (some .boolean)) 1 23 am Rr σ [.ref (am 112), .int p0] r σ' := by
  refine Ct.of rfl (by decide) (Nat.le_of_ble_eq_true rfl) ?_
  intro p e s m args below meth c A C hr
  show NMI g p l e s m args below meth c A 1 23 3 am Rr (r, σ') σ [(0, .ref (am 112)), (1, .int p0)] 0 []
  unfold f_M_isListed at h
  refine nw_iconst (v := 0) C dX12_isListed_0 (by decide) ?_
  refine nw_istore_n (lv' := [(2, .int 0), (0, .ref (am 112)), (1, .int p0)]) C dX12_isListed_1 rfl (by decide) rfl ?_
  exact nw_lv (lv' := [(0, .ref (am 112)), (1, .int p0), (2, .int 0)]) [1, 2, 0] rfl (w_M_isListed_2 C hr p0 FU 0 _ h)
theorem dX12_orders_0 : decode cX12_orders 0 = .ok (.aload_n 0, 1) := by decide +kernel
theorem dX12_orders_1 : decode cX12_orders 1 = .ok (.getfield 606, 3) := by decide +kernel
theorem dX12_orders_4 : decode cX12_orders 4 = .ok (.ifCond .lt 12, 3) := by decide +kernel
theorem dX12_orders_7 : decode cX12_orders 7 = .ok (.iload_n 3, 1) := by decide +kernel
theorem dX12_orders_8 : decode cX12_orders 8 = .ok (.aload_n 0, 1) := by decide +kernel
theorem dX12_orders_9 : decode cX12_orders 9 = .ok (.getfield 606, 3) := by decide +kernel
theorem dX12_orders_12 : decode cX12_orders 12 = .ok (.if_icmp .lt 4, 3) := by decide +kernel
theorem dX12_orders_15 : decode cX12_orders 15 = .ok (.return_, 1) := by decide +kernel
theorem dX12_orders_16 : decode cX12_orders 16 = .ok (.iload_n 1, 1) := by decide +kernel
theorem dX12_orders_17 : decode cX12_orders 17 = .ok (.aload_n 0, 1) := by decide +kernel
theorem dX12_orders_18 : decode cX12_orders 18 = .ok (.getfield 600, 3) := by decide +kernel
theorem dX12_orders_21 : decode cX12_orders 21 = .ok (.if_icmp .ne 38, 3) := by decide +kernel
theorem dX12_orders_24 : decode cX12_orders 24 = .ok (.aload_n 0, 1) := by decide +kernel
theorem dX12_orders_25 : decode cX12_orders 25 = .ok (.iload_n 3, 1) := by decide +kernel
theorem dX12_orders_26 : decode cX12_orders 26 = .ok (.putfield 606, 3) := by decide +kernel
theorem dX12_orders_29 : decode cX12_orders 29 = .ok (.iconst 0, 1) := by decide +kernel
theorem dX12_orders_30 : decode cX12_orders 30 = .ok (.istore 4, 2) := by decide +kernel
theorem dX12_orders_32 : decode cX12_orders 32 = .ok (.iload 4, 2) := by decide +kernel
theorem dX12_orders_34 : decode cX12_orders 34 = .ok (.iload_n 1, 1) := by decide +kernel
theorem dX12_orders_35 : decode cX12_orders 35 = .ok (.if_icmp .ge 23, 3) := by decide +kernel
theorem dX12_orders_38 : decode cX12_orders 38 = .ok (.aload_n 0, 1) := by decide +kernel
theorem dX12_orders_39 : decode cX12_orders 39 = .ok (.getfield 190, 3) := by decide +kernel
theorem dX12_orders_42 : decode cX12_orders 42 = .ok (.iload 4, 2) := by decide +kernel
theorem dX12_orders_44 : decode cX12_orders 44 = .ok (.aload_n 0, 1) := by decide +kernel
theorem dX12_orders_45 : decode cX12_orders 45 = .ok (.getfield 187, 3) := by decide +kernel
theorem dX12_orders_48 : decode cX12_orders 48 = .ok (.iload 4, 2) := by decide +kernel
theorem dX12_orders_50 : decode cX12_orders 50 = .ok (.iaload, 1) := by decide +kernel
theorem dX12_orders_51 : decode cX12_orders 51 = .ok (.iastore, 1) := by decide +kernel
theorem dX12_orders_52 : decode cX12_orders 52 = .ok (.iinc 4 1, 3) := by decide +kernel
theorem dX12_orders_55 : decode cX12_orders 55 = .ok (.goto (-23), 3) := by decide +kernel
theorem dX12_orders_58 : decode cX12_orders 58 = .ok (.return_, 1) := by decide +kernel
theorem dX12_orders_59 : decode cX12_orders 59 = .ok (.iconst 0, 1) := by decide +kernel
theorem dX12_orders_60 : decode cX12_orders 60 = .ok (.istore 4, 2) := by decide +kernel
theorem dX12_orders_62 : decode cX12_orders 62 = .ok (.iload 4, 2) := by decide +kernel
theorem dX12_orders_64 : decode cX12_orders 64 = .ok (.aload_n 0, 1) := by decide +kernel
theorem dX12_orders_65 : decode cX12_orders 65 = .ok (.getfield 600, 3) := by decide +kernel
theorem dX12_orders_68 : decode cX12_orders 68 = .ok (.if_icmp .ge 107, 3) := by decide +kernel
theorem dX12_orders_71 : decode cX12_orders 71 = .ok (.iload_n 2, 1) := by decide +kernel
theorem dX12_orders_72 : decode cX12_orders 72 = .ok (.iload 4, 2) := by decide +kernel
theorem dX12_orders_74 : decode cX12_orders 74 = .ok (.ishr, 1) := by decide +kernel
theorem dX12_orders_75 : decode cX12_orders 75 = .ok (.iconst 1, 1) := by decide +kernel
theorem dX12_orders_76 : decode cX12_orders 76 = .ok (.iand, 1) := by decide +kernel
theorem dX12_orders_77 : decode cX12_orders 77 = .ok (.iconst 1, 1) := by decide +kernel
theorem dX12_orders_78 : decode cX12_orders 78 = .ok (.if_icmp .ne 6, 3) := by decide +kernel
theorem dX12_orders_81 : decode cX12_orders 81 = .ok (.goto 88, 3) := by decide +kernel
theorem dX12_orders_84 : decode cX12_orders 84 = .ok (.iconst 0, 1) := by decide +kernel
theorem dX12_orders_85 : decode cX12_orders 85 = .ok (.istore 5, 2) := by decide +kernel
theorem dX12_orders_87 : decode cX12_orders 87 = .ok (.iconst 0, 1) := by decide +kernel
theorem dX12_orders_88 : decode cX12_orders 88 = .ok (.istore 6, 2) := by decide +kernel
theorem dX12_orders_90 : decode cX12_orders 90 = .ok (.iload 6, 2) := by decide +kernel
theorem dX12_orders_92 : decode cX12_orders 92 = .ok (.aload_n 0, 1) := by decide +kernel
theorem dX12_orders_93 : decode cX12_orders 93 = .ok (.getfield 600, 3) := by decide +kernel
theorem dX12_orders_96 : decode cX12_orders 96 = .ok (.if_icmp .ge 48, 3) := by decide +kernel
theorem dX12_orders_99 : decode cX12_orders 99 = .ok (.iload 5, 2) := by decide +kernel
theorem dX12_orders_101 : decode cX12_orders 101 = .ok (.iload_n 2, 1) := by decide +kernel
theorem dX12_orders_102 : decode cX12_orders 102 = .ok (.iload 6, 2) := by decide +kernel
theorem dX12_orders_104 : decode cX12_orders 104 = .ok (.ishr, 1) := by decide +kernel
theorem dX12_orders_105 : decode cX12_orders 105 = .ok (.iconst 1, 1) := by decide +kernel
theorem dX12_orders_106 : decode cX12_orders 106 = .ok (.iand, 1) := by decide +kernel
theorem dX12_orders_107 : decode cX12_orders 107 = .ok (.iconst 1, 1) := by decide +kernel
theorem dX12_orders_108 : decode cX12_orders 108 = .ok (.if_icmp .eq 10, 3) := by decide +kernel
theorem dX12_orders_111 : decode cX12_orders 111 = .ok (.iload 6, 2) := by decide +kernel
theorem dX12_orders_113 : decode cX12_orders 113 = .ok (.iload 4, 2) := by decide +kernel
theorem dX12_orders_115 : decode cX12_orders 115 = .ok (.if_icmp .ne 7, 3) := by decide +kernel
theorem dX12_orders_118 : decode cX12_orders 118 = .ok (.iconst 0, 1) := by decide +kernel
theorem dX12_orders_119 : decode cX12_orders 119 = .ok (.goto 16, 3) := by decide +kernel
theorem dX12_orders_122 : decode cX12_orders 122 = .ok (.aload_n 0, 1) := by decide +kernel
theorem dX12_orders_123 : decode cX12_orders 123 = .ok (.getfield 184, 3) := by decide +kernel
theorem dX12_orders_126 : decode cX12_orders 126 = .ok (.bipush 8, 2) := by decide +kernel
theorem dX12_orders_128 : decode cX12_orders 128 = .ok (.iload 6, 2) := by decide +kernel
theorem dX12_orders_130 : decode cX12_orders 130 = .ok (.imul, 1) := by decide +kernel
theorem dX12_orders_131 : decode cX12_orders 131 = .ok (.iload 4, 2) := by decide +kernel
theorem dX12_orders_133 : decode cX12_orders 133 = .ok (.iadd, 1) := by decide +kernel
theorem dX12_orders_134 : decode cX12_orders 134 = .ok (.iaload, 1) := by decide +kernel
theorem dX12_orders_135 : decode cX12_orders 135 = .ok (.iadd, 1) := by decide +kernel
theorem dX12_orders_136 : decode cX12_orders 136 = .ok (.istore 5, 2) := by decide +kernel
theorem dX12_orders_138 : decode cX12_orders 138 = .ok (.iinc 6 1, 3) := by decide +kernel
theorem dX12_orders_141 : decode cX12_orders 141 = .ok (.goto (-51), 3) := by decide +kernel
theorem dX12_orders_144 : decode cX12_orders 144 = .ok (.aload_n 0, 1) := by decide +kernel
theorem dX12_orders_145 : decode cX12_orders 145 = .ok (.getfield 187, 3) := by decide +kernel
theorem dX12_orders_148 : decode cX12_orders 148 = .ok (.iload_n 1, 1) := by decide +kernel
theorem dX12_orders_149 : decode cX12_orders 149 = .ok (.iload 4, 2) := by decide +kernel
theorem dX12_orders_151 : decode cX12_orders 151 = .ok (.iastore, 1) := by decide +kernel
theorem dX12_orders_152 : decode cX12_orders 152 = .ok (.aload_n 0, 1) := by decide +kernel
theorem dX12_orders_153 : decode cX12_orders 153 = .ok (.iload_n 1, 1) := by decide +kernel
theorem dX12_orders_154 : decode cX12_orders 154 = .ok (.iconst 1, 1) := by decide +kernel
theorem dX12_orders_155 : decode cX12_orders 155 = .ok (.iadd, 1) := by decide +kernel
theorem dX12_orders_156 : decode cX12_orders 156 = .ok (.iload_n 2, 1) := by decide +kernel
theorem dX12_orders_157 : decode cX12_orders 157 = .ok (.iconst 1, 1) := by decide +kernel
theorem dX12_orders_158 : decode cX12_orders 158 = .ok (.iload 4, 2) := by decide +kernel
theorem dX12_orders_160 : decode cX12_orders 160 = .ok (.ishl, 1) := by decide +kernel
theorem dX12_orders_161 : decode cX12_orders 161 = .ok (.ior, 1) := by decide +kernel
theorem dX12_orders_162 : decode cX12_orders 162 = .ok (.iload_n 3, 1) := by decide +kernel
theorem dX12_orders_163 : decode cX12_orders 163 = .ok (.iload 5, 2) := by decide +kernel
theorem dX12_orders_165 : decode cX12_orders 165 = .ok (.iadd, 1) := by decide +kernel
theorem dX12_orders_166 : decode cX12_orders 166 = .ok (.invokevirtual 609, 3) := by decide +kernel
theorem dX12_orders_169 : decode cX12_orders 169 = .ok (.iinc 4 1, 3) := by decide +kernel
theorem dX12_orders_172 : decode cX12_orders 172 = .ok (.goto (-110), 3) := by decide +kernel
theorem dX12_orders_175 : decode cX12_orders 175 = .ok (.return_, 1) := by decide +kernel
def L_M_orders_32 (rc : Nat → Int32 → Int32 → Int32 → CS → Option (Int32 × CS))  (x1 : Int32) : Nat → Int32 → CS → Option (Int32 × CS)
  | 0, _, _ => none
  | n + 1, x4, σ => if x1 ≤ x4 then some (0, σ) else gix x4 8 (gix x4 8 ((L_M_orders_32 rc x1 n) (x4 + 1) (wr σ 85 x4 (rd σ 84 x4))))
set_option maxHeartbeats 4000000 in
set_option maxRecDepth 100000 in
theorem w_M_orders_32 (C : Cx g p s m args meth c A 7 cX12_orders yX12_orders.cls) (hr : meth.sig.returnType = none) {d : Nat} {rc : Nat → Int32 → Int32 → Int32 → CS → Option (Int32 × CS)} (hrc0 : ∀ {l : Launch} {g : EG} {am : Nat → Nat} {Rr : va_W} {σ σ' : CS} {r : Int32} {a0 a1 a2 : Int32}, rc 0 a0 a1 a2 σ = some (r, σ') → CmV l g yX12_orders (.code yX12_orders cX12_orders 7 none) (10 * d) (400 * d) am Rr σ [.ref (am 112), .int a0, .int a1, .int a2] r σ')  {res : Int32 × CS}  (x1 : Int32)  : ∀ (n : Nat) (x4 : Int32) (σ : CS), L_M_orders_32 rc x1 n x4 σ = some res → NMV g p l e s m args below meth c A (10 * d + 10) (400 * d + 400) 7 am Rr res σ [(0, .ref (am 112)), (1, .int x1), (4, .int x4)] 32 [] := by
  intro n
  induction n with
  | zero =>
    intro x4 σ h
    exact absurd (show (none : Option (Int32 × CS)) = some res from h) (by intro h9; cases h9)
  | succ n ih =>
    intro x4 σ h
    rw [L_M_orders_32] at h
    refine nw_iload C dX12_orders_32 2 rfl ?_
    refine nw_iload_n C dX12_orders_34 rfl 1 rfl ?_
    refine nw_icmp_ge (tgt := 58) C dX12_orders_35 (by decide) h (fun _ h => ?_) (fun _ h => ?_)
    · exact nm_vret C hr dX12_orders_58 h
    · refine nw_aload_n C dX12_orders_38 rfl 0 rfl ?_
      refine nw_get (v := .ref (am 85)) C in_X12 0 ml_O rfl 85 (by decide) tw_1658 rfl mf_85 dX12_orders_39 ?_
      refine nw_iload C dX12_orders_42 2 rfl ?_
      refine nw_aload_n C dX12_orders_44 rfl 0 rfl ?_
      refine nw_get (v := .ref (am 84)) C in_X12 0 ml_O rfl 84 (by decide) tw_1657 rfl mf_84 dX12_orders_45 ?_
      refine nw_iload C dX12_orders_48 2 rfl ?_
      refine nw_iald C 58 ml_84 dX12_orders_50 h (fun h => ?_)
      refine nw_iast C 59 ml_85 dX12_orders_51 h ms_85 (fun h => ?_)
      refine nw_iinc (lv' := [(4, .int (x4 + 1)), (0, .ref (am 112)), (1, .int x1)]) C (x4 + 1) dX12_orders_52 2 rfl rfl (by decide) rfl ?_
      refine nw_goto (tgt := 32) C dX12_orders_55 (by decide) ?_
      exact nw_lv (lv' := [(0, .ref (am 112)), (1, .int x1), (4, .int (x4 + 1))]) [1, 2, 0] rfl (ih (x4 + 1) _ h)
def B_M_orders_135 (rc : Nat → Int32 → Int32 → Int32 → CS → Option (Int32 × CS)) (k90 : Int32 → Int32 → CS → Option (Int32 × CS)) (x1 : Int32) (x2 : Int32) (x3 : Int32) (x4 : Int32) (x6 : Int32) (z0 : Int32) (z1 : Int32) (σ : CS) : Option (Int32 × CS) := k90 (z0 + z1) (x6 + 1) σ
set_option maxHeartbeats 4000000 in
set_option maxRecDepth 100000 in
theorem w_M_orders_135 (C : Cx g p s m args meth c A 7 cX12_orders yX12_orders.cls) (hr : meth.sig.returnType = none) {d : Nat} {rc : Nat → Int32 → Int32 → Int32 → CS → Option (Int32 × CS)} (hrc0 : ∀ {l : Launch} {g : EG} {am : Nat → Nat} {Rr : va_W} {σ σ' : CS} {r : Int32} {a0 a1 a2 : Int32}, rc 0 a0 a1 a2 σ = some (r, σ') → CmV l g yX12_orders (.code yX12_orders cX12_orders 7 none) (10 * d) (400 * d) am Rr σ [.ref (am 112), .int a0, .int a1, .int a2] r σ')  {res : Int32 × CS}  (x1 : Int32) (x2 : Int32) (x3 : Int32) (x4 : Int32) (x6 : Int32) (z0 : Int32) (z1 : Int32) {k90 : Int32 → Int32 → CS → Option (Int32 × CS)} (hk90 : ∀ (x5 : Int32) (x6 : Int32) (σ : CS), k90 x5 x6 σ = some res → NMV g p l e s m args below meth c A (10 * d + 10) (400 * d + 400) 7 am Rr res σ [(0, .ref (am 112)), (1, .int x1), (2, .int x2), (3, .int x3), (4, .int x4), (5, .int x5), (6, .int x6)] 90 []) (σ : CS) (h : B_M_orders_135 rc k90 x1 x2 x3 x4 x6 z0 z1 σ = some res) : NMV g p l e s m args below meth c A (10 * d + 10) (400 * d + 400) 7 am Rr res σ [(0, .ref (am 112)), (1, .int x1), (2, .int x2), (3, .int x3), (4, .int x4), (6, .int x6)] 135 [.int z1, .int z0] := by
  unfold B_M_orders_135 at h
  refine nw_iadd C dX12_orders_135 ?_
  refine nw_istore (lv' := [(5, .int (z0 + z1)), (0, .ref (am 112)), (1, .int x1), (2, .int x2), (3, .int x3), (4, .int x4), (6, .int x6)]) C dX12_orders_136 (by decide) rfl ?_
  refine nw_iinc (lv' := [(6, .int (x6 + 1)), (5, .int (z0 + z1)), (0, .ref (am 112)), (1, .int x1), (2, .int x2), (3, .int x3), (4, .int x4)]) C (x6 + 1) dX12_orders_138 6 rfl rfl (by decide) rfl ?_
  refine nw_goto (tgt := 90) C dX12_orders_141 (by decide) ?_
  exact nw_lv (lv' := [(0, .ref (am 112)), (1, .int x1), (2, .int x2), (3, .int x3), (4, .int x4), (5, .int (z0 + z1)), (6, .int (x6 + 1))]) [2, 3, 4, 5, 6, 1, 0] rfl (hk90 (z0 + z1) (x6 + 1) _ h)
def L_M_orders_90 (rc : Nat → Int32 → Int32 → Int32 → CS → Option (Int32 × CS)) (k144 : Int32 → Int32 → CS → Option (Int32 × CS)) (x1 : Int32) (x2 : Int32) (x3 : Int32) (x4 : Int32) : Nat → Int32 → Int32 → CS → Option (Int32 × CS)
  | 0, _, _, _ => none
  | n + 1, x5, x6, σ => if (σ.1 86) ≤ x6 then k144 x4 x5 σ else if ((x2 >>> (x6 &&& 31)) &&& 1) = 1 then B_M_orders_135 rc (L_M_orders_90 rc k144 x1 x2 x3 x4 n) x1 x2 x3 x4 x6 x5 0 σ else if x6 = x4 then B_M_orders_135 rc (L_M_orders_90 rc k144 x1 x2 x3 x4 n) x1 x2 x3 x4 x6 x5 0 σ else gix ((8 * x6) + x4) 64 (B_M_orders_135 rc (L_M_orders_90 rc k144 x1 x2 x3 x4 n) x1 x2 x3 x4 x6 x5 (rd σ 83 ((8 * x6) + x4)) σ)
set_option maxHeartbeats 4000000 in
set_option maxRecDepth 100000 in
theorem w_M_orders_90 (C : Cx g p s m args meth c A 7 cX12_orders yX12_orders.cls) (hr : meth.sig.returnType = none) {d : Nat} {rc : Nat → Int32 → Int32 → Int32 → CS → Option (Int32 × CS)} (hrc0 : ∀ {l : Launch} {g : EG} {am : Nat → Nat} {Rr : va_W} {σ σ' : CS} {r : Int32} {a0 a1 a2 : Int32}, rc 0 a0 a1 a2 σ = some (r, σ') → CmV l g yX12_orders (.code yX12_orders cX12_orders 7 none) (10 * d) (400 * d) am Rr σ [.ref (am 112), .int a0, .int a1, .int a2] r σ')  {res : Int32 × CS}  (x1 : Int32) (x2 : Int32) (x3 : Int32) (x4 : Int32) {k144 : Int32 → Int32 → CS → Option (Int32 × CS)} (hk144 : ∀ (x4 : Int32) (x5 : Int32) (σ : CS), k144 x4 x5 σ = some res → NMV g p l e s m args below meth c A (10 * d + 10) (400 * d + 400) 7 am Rr res σ [(0, .ref (am 112)), (1, .int x1), (2, .int x2), (3, .int x3), (4, .int x4), (5, .int x5)] 144 []) : ∀ (n : Nat) (x5 : Int32) (x6 : Int32) (σ : CS), L_M_orders_90 rc k144 x1 x2 x3 x4 n x5 x6 σ = some res → NMV g p l e s m args below meth c A (10 * d + 10) (400 * d + 400) 7 am Rr res σ [(0, .ref (am 112)), (1, .int x1), (2, .int x2), (3, .int x3), (4, .int x4), (5, .int x5), (6, .int x6)] 90 [] := by
  intro n
  induction n with
  | zero =>
    intro x5 x6 σ h
    exact absurd (show (none : Option (Int32 × CS)) = some res from h) (by intro h9; cases h9)
  | succ n ih =>
    intro x5 x6 σ h
    rw [L_M_orders_90] at h
    refine nw_iload C dX12_orders_90 6 rfl ?_
    refine nw_aload_n C dX12_orders_92 rfl 0 rfl ?_
    refine nw_get (v := .int (σ.1 86)) C in_X12 0 ml_O rfl 86 (by decide) tw_1659 rfl mf_86 dX12_orders_93 ?_
    refine nw_icmp_ge (tgt := 144) C dX12_orders_96 (by decide) h (fun _ h => ?_) (fun _ h => ?_)
    · exact nw_lv (lv' := [(0, .ref (am 112)), (1, .int x1), (2, .int x2), (3, .int x3), (4, .int x4), (5, .int x5)]) [0, 1, 2, 3, 4, 5] rfl (hk144 x4 x5 _ h)
    · refine nw_iload C dX12_orders_99 5 rfl ?_
      refine nw_iload_n C dX12_orders_101 rfl 2 rfl ?_
      refine nw_iload C dX12_orders_102 6 rfl ?_
      refine nw_ishr C dX12_orders_104 ?_
      refine nw_iconst (v := 1) C dX12_orders_105 (by decide) ?_
      refine nw_iand C dX12_orders_106 ?_
      refine nw_iconst (v := 1) C dX12_orders_107 (by decide) ?_
      refine nw_icmp_eq (tgt := 118) C dX12_orders_108 (by decide) h (fun _ h => ?_) (fun _ h => ?_)
      · refine nw_iconst (v := 0) C dX12_orders_118 (by decide) ?_
        refine nw_goto (tgt := 135) C dX12_orders_119 (by decide) ?_
        exact nw_lv (lv' := [(0, .ref (am 112)), (1, .int x1), (2, .int x2), (3, .int x3), (4, .int x4), (6, .int x6)]) [0, 1, 2, 3, 4, 6] rfl (w_M_orders_135 C hr hrc0 x1 x2 x3 x4 x6 x5 0 ih _ h)
      · refine nw_iload C dX12_orders_111 6 rfl ?_
        refine nw_iload C dX12_orders_113 4 rfl ?_
        refine nw_icmp_ne (tgt := 122) C dX12_orders_115 (by decide) h (fun _ h => ?_) (fun _ h => ?_)
        · refine nw_iconst (v := 0) C dX12_orders_118 (by decide) ?_
          refine nw_goto (tgt := 135) C dX12_orders_119 (by decide) ?_
          exact nw_lv (lv' := [(0, .ref (am 112)), (1, .int x1), (2, .int x2), (3, .int x3), (4, .int x4), (6, .int x6)]) [0, 1, 2, 3, 4, 6] rfl (w_M_orders_135 C hr hrc0 x1 x2 x3 x4 x6 x5 0 ih _ h)
        · refine nw_aload_n C dX12_orders_122 rfl 0 rfl ?_
          refine nw_get (v := .ref (am 83)) C in_X12 0 ml_O rfl 83 (by decide) tw_1656 rfl mf_83 dX12_orders_123 ?_
          refine nw_bipush (v := 8) C dX12_orders_126 (by decide) ?_
          refine nw_iload C dX12_orders_128 6 rfl ?_
          refine nw_imul C dX12_orders_130 ?_
          refine nw_iload C dX12_orders_131 4 rfl ?_
          refine nw_iadd C dX12_orders_133 ?_
          refine nw_iald C 57 ml_83 dX12_orders_134 h (fun h => ?_)
          exact nw_lv (lv' := [(0, .ref (am 112)), (1, .int x1), (2, .int x2), (3, .int x3), (4, .int x4), (6, .int x6)]) [0, 1, 2, 3, 4, 6] rfl (w_M_orders_135 C hr hrc0 x1 x2 x3 x4 x6 x5 (rd σ 83 ((8 * x6) + x4)) ih _ h)
def B_M_orders_144 (rc : Nat → Int32 → Int32 → Int32 → CS → Option (Int32 × CS)) (k62 : Int32 → CS → Option (Int32 × CS)) (x1 : Int32) (x2 : Int32) (x3 : Int32) (x4 : Int32) (x5 : Int32) (σ : CS) : Option (Int32 × CS) := gix x1 8 (bnd (rc 0 (x1 + 1) (x2 ||| ((1 : Int32) <<< (x4 &&& 31))) (x3 + x5) (wr σ 84 x1 x4)) (fun _ σ166 => k62 (x4 + 1) σ166))
set_option maxHeartbeats 4000000 in
set_option maxRecDepth 100000 in
theorem w_M_orders_144 (C : Cx g p s m args meth c A 7 cX12_orders yX12_orders.cls) (hr : meth.sig.returnType = none) {d : Nat} {rc : Nat → Int32 → Int32 → Int32 → CS → Option (Int32 × CS)} (hrc0 : ∀ {l : Launch} {g : EG} {am : Nat → Nat} {Rr : va_W} {σ σ' : CS} {r : Int32} {a0 a1 a2 : Int32}, rc 0 a0 a1 a2 σ = some (r, σ') → CmV l g yX12_orders (.code yX12_orders cX12_orders 7 none) (10 * d) (400 * d) am Rr σ [.ref (am 112), .int a0, .int a1, .int a2] r σ')  {res : Int32 × CS}  (x1 : Int32) (x2 : Int32) (x3 : Int32) (x4 : Int32) (x5 : Int32) {k62 : Int32 → CS → Option (Int32 × CS)} (hk62 : ∀ (x4 : Int32) (σ : CS), k62 x4 σ = some res → NMV g p l e s m args below meth c A (10 * d + 10) (400 * d + 400) 7 am Rr res σ [(0, .ref (am 112)), (1, .int x1), (2, .int x2), (3, .int x3), (4, .int x4)] 62 []) (σ : CS) (h : B_M_orders_144 rc k62 x1 x2 x3 x4 x5 σ = some res) : NMV g p l e s m args below meth c A (10 * d + 10) (400 * d + 400) 7 am Rr res σ [(0, .ref (am 112)), (1, .int x1), (2, .int x2), (3, .int x3), (4, .int x4), (5, .int x5)] 144 [] := by
  unfold B_M_orders_144 at h
  refine nw_aload_n C dX12_orders_144 rfl 0 rfl ?_
  refine nw_get (v := .ref (am 84)) C in_X12 0 ml_O rfl 84 (by decide) tw_1657 rfl mf_84 dX12_orders_145 ?_
  refine nw_iload_n C dX12_orders_148 rfl 1 rfl ?_
  refine nw_iload C dX12_orders_149 4 rfl ?_
  refine nw_iast C 58 ml_84 dX12_orders_151 h ms_84 (fun h => ?_)
  refine nw_aload_n C dX12_orders_152 rfl 0 rfl ?_
  refine nw_iload_n C dX12_orders_153 rfl 1 rfl ?_
  refine nw_iconst (v := 1) C dX12_orders_154 (by decide) ?_
  refine nw_iadd C dX12_orders_155 ?_
  refine nw_iload_n C dX12_orders_156 rfl 2 rfl ?_
  refine nw_iconst (v := 1) C dX12_orders_157 (by decide) ?_
  refine nw_iload C dX12_orders_158 4 rfl ?_
  refine nw_ishl C dX12_orders_160 ?_
  refine nw_ior C dX12_orders_161 ?_
  refine nw_iload_n C dX12_orders_162 rfl 3 rfl ?_
  refine nw_iload C dX12_orders_163 5 rfl ?_
  refine nw_iadd C dX12_orders_165 ?_
  refine nm_callVV (q0 := 0) (As := [.int (x1 + 1), .int (x2 ||| ((1 : Int32) <<< (x4 &&& 31))), .int (x3 + x5)]) (rest := []) C h (fun _ _ e => hrc0 e) tw_2323 kv_X12_orders ml_O rfl ⟨by omega, by omega⟩ rfl dX12_orders_166 rfl (Nat.le_of_ble_eq_true rfl) (fun r166 σ166 h => ?_)
  refine nw_iinc (lv' := [(4, .int (x4 + 1)), (0, .ref (am 112)), (1, .int x1), (2, .int x2), (3, .int x3), (5, .int x5)]) C (x4 + 1) dX12_orders_169 4 rfl rfl (by decide) rfl ?_
  refine nw_goto (tgt := 62) C dX12_orders_172 (by decide) ?_
  exact nw_lv (lv' := [(0, .ref (am 112)), (1, .int x1), (2, .int x2), (3, .int x3), (4, .int (x4 + 1))]) [1, 2, 3, 4, 0] rfl (hk62 (x4 + 1) _ h)
def L_M_orders_62 (rc : Nat → Int32 → Int32 → Int32 → CS → Option (Int32 × CS))  (x1 : Int32) (x2 : Int32) (x3 : Int32) : Nat → Int32 → CS → Option (Int32 × CS)
  | 0, _, _ => none
  | n + 1, x4, σ => if (σ.1 86) ≤ x4 then some (0, σ) else if ((x2 >>> (x4 &&& 31)) &&& 1) = 1 then (L_M_orders_62 rc x1 x2 x3 n) (x4 + 1) σ else L_M_orders_90 rc (B_M_orders_144 rc (L_M_orders_62 rc x1 x2 x3 n) x1 x2 x3) x1 x2 x3 x4 FU 0 0 σ
set_option maxHeartbeats 4000000 in
set_option maxRecDepth 100000 in
theorem w_M_orders_62 (C : Cx g p s m args meth c A 7 cX12_orders yX12_orders.cls) (hr : meth.sig.returnType = none) {d : Nat} {rc : Nat → Int32 → Int32 → Int32 → CS → Option (Int32 × CS)} (hrc0 : ∀ {l : Launch} {g : EG} {am : Nat → Nat} {Rr : va_W} {σ σ' : CS} {r : Int32} {a0 a1 a2 : Int32}, rc 0 a0 a1 a2 σ = some (r, σ') → CmV l g yX12_orders (.code yX12_orders cX12_orders 7 none) (10 * d) (400 * d) am Rr σ [.ref (am 112), .int a0, .int a1, .int a2] r σ')  {res : Int32 × CS}  (x1 : Int32) (x2 : Int32) (x3 : Int32)  : ∀ (n : Nat) (x4 : Int32) (σ : CS), L_M_orders_62 rc x1 x2 x3 n x4 σ = some res → NMV g p l e s m args below meth c A (10 * d + 10) (400 * d + 400) 7 am Rr res σ [(0, .ref (am 112)), (1, .int x1), (2, .int x2), (3, .int x3), (4, .int x4)] 62 [] := by
  intro n
  induction n with
  | zero =>
    intro x4 σ h
    exact absurd (show (none : Option (Int32 × CS)) = some res from h) (by intro h9; cases h9)
  | succ n ih =>
    intro x4 σ h
    rw [L_M_orders_62] at h
    refine nw_iload C dX12_orders_62 4 rfl ?_
    refine nw_aload_n C dX12_orders_64 rfl 0 rfl ?_
    refine nw_get (v := .int (σ.1 86)) C in_X12 0 ml_O rfl 86 (by decide) tw_1659 rfl mf_86 dX12_orders_65 ?_
    refine nw_icmp_ge (tgt := 175) C dX12_orders_68 (by decide) h (fun _ h => ?_) (fun _ h => ?_)
    · exact nm_vret C hr dX12_orders_175 h
    · refine nw_iload_n C dX12_orders_71 rfl 2 rfl ?_
      refine nw_iload C dX12_orders_72 4 rfl ?_
      refine nw_ishr C dX12_orders_74 ?_
      refine nw_iconst (v := 1) C dX12_orders_75 (by decide) ?_
      refine nw_iand C dX12_orders_76 ?_
      refine nw_iconst (v := 1) C dX12_orders_77 (by decide) ?_
      refine nw_icmp_ne (tgt := 84) C dX12_orders_78 (by decide) h (fun _ h => ?_) (fun _ h => ?_)
      · refine nw_goto (tgt := 169) C dX12_orders_81 (by decide) ?_
        refine nw_iinc (lv' := [(4, .int (x4 + 1)), (0, .ref (am 112)), (1, .int x1), (2, .int x2), (3, .int x3)]) C (x4 + 1) dX12_orders_169 4 rfl rfl (by decide) rfl ?_
        refine nw_goto (tgt := 62) C dX12_orders_172 (by decide) ?_
        exact nw_lv (lv' := [(0, .ref (am 112)), (1, .int x1), (2, .int x2), (3, .int x3), (4, .int (x4 + 1))]) [1, 2, 3, 4, 0] rfl (ih (x4 + 1) _ h)
      · refine nw_iconst (v := 0) C dX12_orders_84 (by decide) ?_
        refine nw_istore (lv' := [(5, .int 0), (0, .ref (am 112)), (1, .int x1), (2, .int x2), (3, .int x3), (4, .int x4)]) C dX12_orders_85 (by decide) rfl ?_
        refine nw_iconst (v := 0) C dX12_orders_87 (by decide) ?_
        refine nw_istore (lv' := [(6, .int 0), (5, .int 0), (0, .ref (am 112)), (1, .int x1), (2, .int x2), (3, .int x3), (4, .int x4)]) C dX12_orders_88 (by decide) rfl ?_
        exact nw_lv (lv' := [(0, .ref (am 112)), (1, .int x1), (2, .int x2), (3, .int x3), (4, .int x4), (5, .int 0), (6, .int 0)]) [2, 3, 4, 5, 6, 1, 0] rfl (w_M_orders_90 C hr hrc0 x1 x2 x3 x4 (fun x4_ x5_ σ_ h_ => w_M_orders_144 C hr hrc0 x1 x2 x3 x4_ x5_ ih σ_ h_) FU 0 0 _ h)
def B_M_orders_16 (rc : Nat → Int32 → Int32 → Int32 → CS → Option (Int32 × CS))   (x1 : Int32) (x2 : Int32) (x3 : Int32) (σ : CS) : Option (Int32 × CS) := if x1 = (σ.1 86) then L_M_orders_32 rc x1 FU 0 (sF σ 87 x3) else L_M_orders_62 rc x1 x2 x3 FU 0 σ
set_option maxHeartbeats 4000000 in
set_option maxRecDepth 100000 in
theorem w_M_orders_16 (C : Cx g p s m args meth c A 7 cX12_orders yX12_orders.cls) (hr : meth.sig.returnType = none) {d : Nat} {rc : Nat → Int32 → Int32 → Int32 → CS → Option (Int32 × CS)} (hrc0 : ∀ {l : Launch} {g : EG} {am : Nat → Nat} {Rr : va_W} {σ σ' : CS} {r : Int32} {a0 a1 a2 : Int32}, rc 0 a0 a1 a2 σ = some (r, σ') → CmV l g yX12_orders (.code yX12_orders cX12_orders 7 none) (10 * d) (400 * d) am Rr σ [.ref (am 112), .int a0, .int a1, .int a2] r σ')  {res : Int32 × CS}   (x1 : Int32) (x2 : Int32) (x3 : Int32)  (σ : CS) (h : B_M_orders_16 rc x1 x2 x3 σ = some res) : NMV g p l e s m args below meth c A (10 * d + 10) (400 * d + 400) 7 am Rr res σ [(0, .ref (am 112)), (1, .int x1), (2, .int x2), (3, .int x3)] 16 [] := by
  unfold B_M_orders_16 at h
  refine nw_iload_n C dX12_orders_16 rfl 1 rfl ?_
  refine nw_aload_n C dX12_orders_17 rfl 0 rfl ?_
  refine nw_get (v := .int (σ.1 86)) C in_X12 0 ml_O rfl 86 (by decide) tw_1659 rfl mf_86 dX12_orders_18 ?_
  refine nw_icmp_ne (tgt := 59) C dX12_orders_21 (by decide) h (fun _ h => ?_) (fun _ h => ?_)
  · refine nw_aload_n C dX12_orders_24 rfl 0 rfl ?_
    refine nw_iload_n C dX12_orders_25 rfl 3 rfl ?_
    refine nw_put (ty := .int) C in_X12 0 ml_O rfl 87 (by decide) tyX12 tyX12_ok nmX12 tw_1660 rfl rfl (by decide +kernel) rfl rfl (Nat.le_of_ble_eq_true rfl) dX12_orders_26 ms_87 ?_
    refine nw_iconst (v := 0) C dX12_orders_29 (by decide) ?_
    refine nw_istore (lv' := [(4, .int 0), (0, .ref (am 112)), (1, .int x1), (2, .int x2), (3, .int x3)]) C dX12_orders_30 (by decide) rfl ?_
    exact nw_lv (lv' := [(0, .ref (am 112)), (1, .int x1), (4, .int 0)]) [1, 2, 0] rfl (w_M_orders_32 C hr hrc0 x1 FU 0 _ h)
  · refine nw_iconst (v := 0) C dX12_orders_59 (by decide) ?_
    refine nw_istore (lv' := [(4, .int 0), (0, .ref (am 112)), (1, .int x1), (2, .int x2), (3, .int x3)]) C dX12_orders_60 (by decide) rfl ?_
    exact nw_lv (lv' := [(0, .ref (am 112)), (1, .int x1), (2, .int x2), (3, .int x3), (4, .int 0)]) [1, 2, 3, 4, 0] rfl (w_M_orders_62 C hr hrc0 x1 x2 x3 FU 0 _ h)
def f_M_orders (rc : Nat → Int32 → Int32 → Int32 → CS → Option (Int32 × CS)) (p0 : Int32) (p1 : Int32) (p2 : Int32) (σ : CS) : Option (Int32 × CS) := if (σ.1 87) < 0 then B_M_orders_16 rc p0 p1 p2 σ else if p2 < (σ.1 87) then B_M_orders_16 rc p0 p1 p2 σ else some (0, σ)
set_option maxHeartbeats 4000000 in
set_option maxRecDepth 100000 in
theorem c_M_orders {l : Launch} {g : EG} {am : Nat → Nat} {Rr : va_W} {σ σ' : CS} {r : Int32} {p0 : Int32} {p1 : Int32} {p2 : Int32} {d : Nat} {rc : Nat → Int32 → Int32 → Int32 → CS → Option (Int32 × CS)} (hrc0 : ∀ {l : Launch} {g : EG} {am : Nat → Nat} {Rr : va_W} {σ σ' : CS} {r : Int32} {a0 a1 a2 : Int32}, rc 0 a0 a1 a2 σ = some (r, σ') → CmV l g yX12_orders (.code yX12_orders cX12_orders 7 none) (10 * d) (400 * d) am Rr σ [.ref (am 112), .int a0, .int a1, .int a2] r σ')  (h : f_M_orders rc p0 p1 p2 σ = some (r, σ')) : CmV l g yX12_orders (.code yX12_orders cX12_orders 7 none) (10 * d + 10) (400 * d + 400) am Rr σ [.ref (am 112), .int p0, .int p1, .int p2] r σ' := by
  refine Ct.of rfl (by decide) (Nat.le_of_ble_eq_true rfl) ?_
  intro p e s m args below meth c A C hr
  show NMV g p l e s m args below meth c A (10 * d + 10) (400 * d + 400) 7 am Rr (r, σ') σ [(0, .ref (am 112)), (1, .int p0), (2, .int p1), (3, .int p2)] 0 []
  unfold f_M_orders at h
  refine nw_aload_n C dX12_orders_0 rfl 0 rfl ?_
  refine nw_get (v := .int (σ.1 87)) C in_X12 0 ml_O rfl 87 (by decide) tw_1660 rfl mf_87 dX12_orders_1 ?_
  refine nw_if_lt (tgt := 16) C dX12_orders_4 (by decide) h (fun _ h => ?_) (fun _ h => ?_)
  · exact nw_lv (lv' := [(0, .ref (am 112)), (1, .int p0), (2, .int p1), (3, .int p2)]) [0, 1, 2, 3] rfl (w_M_orders_16 C hr hrc0 p0 p1 p2 _ h)
  · refine nw_iload_n C dX12_orders_7 rfl 3 rfl ?_
    refine nw_aload_n C dX12_orders_8 rfl 0 rfl ?_
    refine nw_get (v := .int (σ.1 87)) C in_X12 0 ml_O rfl 87 (by decide) tw_1660 rfl mf_87 dX12_orders_9 ?_
    refine nw_icmp_lt (tgt := 16) C dX12_orders_12 (by decide) h (fun _ h => ?_) (fun _ h => ?_)
    · exact nw_lv (lv' := [(0, .ref (am 112)), (1, .int p0), (2, .int p1), (3, .int p2)]) [0, 1, 2, 3] rfl (w_M_orders_16 C hr hrc0 p0 p1 p2 _ h)
    · exact nm_vret C hr dX12_orders_15 h
def g_MO : Nat → Nat → Int32 → Int32 → Int32 → CS → Option (Int32 × CS)
  | 0, _, _, _, _, _ => none
  | d + 1, tag, a0, a1, a2, σ => if tag = 0 then f_M_orders (g_MO d) a0 a1 a2 σ else none
set_option maxHeartbeats 4000000 in
theorem cg_MO (d : Nat) : (∀ {l : Launch} {g : EG} {am : Nat → Nat} {Rr : va_W} {σ σ' : CS} {r : Int32} {a0 a1 a2 : Int32}, g_MO d 0 a0 a1 a2 σ = some (r, σ') → CmV l g yX12_orders (.code yX12_orders cX12_orders 7 none) (10 * d) (400 * d) am Rr σ [.ref (am 112), .int a0, .int a1, .int a2] r σ') := by
  induction d with
  | zero => exact fun h => absurd (show (none : Option (Int32 × CS)) = some _ from h) (by intro h9; cases h9)
  | succ d ih =>
    have i0 := @ih
    exact (by intro l g am Rr σ σ' r a0 a1 a2 h; exact c_M_orders @i0 h)
theorem cg_M_orders (d : Nat) : ∀ {l : Launch} {g : EG} {am : Nat → Nat} {Rr : va_W} {σ σ' : CS} {r : Int32} {a0 a1 a2 : Int32}, g_MO d 0 a0 a1 a2 σ = some (r, σ') → CmV l g yX12_orders (.code yX12_orders cX12_orders 7 none) (10 * d) (400 * d) am Rr σ [.ref (am 112), .int a0, .int a1, .int a2] r σ' := fun h => (cg_MO d) h
theorem dX12_lists_0 : decode cX12_lists 0 = .ok (.aload_n 0, 1) := by decide +kernel
theorem dX12_lists_1 : decode cX12_lists 1 = .ok (.iconst 0, 1) := by decide +kernel
theorem dX12_lists_2 : decode cX12_lists 2 = .ok (.putfield 600, 3) := by decide +kernel
theorem dX12_lists_5 : decode cX12_lists 5 = .ok (.iconst 0, 1) := by decide +kernel
theorem dX12_lists_6 : decode cX12_lists 6 = .ok (.istore_n 1, 1) := by decide +kernel
theorem dX12_lists_7 : decode cX12_lists 7 = .ok (.iload_n 1, 1) := by decide +kernel
theorem dX12_lists_8 : decode cX12_lists 8 = .ok (.aload_n 0, 1) := by decide +kernel
theorem dX12_lists_9 : decode cX12_lists 9 = .ok (.getfield 566, 3) := by decide +kernel
theorem dX12_lists_12 : decode cX12_lists 12 = .ok (.if_icmp .ge 51, 3) := by decide +kernel
theorem dX12_lists_15 : decode cX12_lists 15 = .ok (.aload_n 0, 1) := by decide +kernel
theorem dX12_lists_16 : decode cX12_lists 16 = .ok (.iload_n 1, 1) := by decide +kernel
theorem dX12_lists_17 : decode cX12_lists 17 = .ok (.invokevirtual 603, 3) := by decide +kernel
theorem dX12_lists_20 : decode cX12_lists 20 = .ok (.ifCond .ne 6, 3) := by decide +kernel
theorem dX12_lists_23 : decode cX12_lists 23 = .ok (.goto 34, 3) := by decide +kernel
theorem dX12_lists_26 : decode cX12_lists 26 = .ok (.aload_n 0, 1) := by decide +kernel
theorem dX12_lists_27 : decode cX12_lists 27 = .ok (.getfield 600, 3) := by decide +kernel
theorem dX12_lists_30 : decode cX12_lists 30 = .ok (.bipush 8, 2) := by decide +kernel
theorem dX12_lists_32 : decode cX12_lists 32 = .ok (.if_icmp .ne 5, 3) := by decide +kernel
theorem dX12_lists_35 : decode cX12_lists 35 = .ok (.iconst 0, 1) := by decide +kernel
theorem dX12_lists_36 : decode cX12_lists 36 = .ok (.ireturn, 1) := by decide +kernel
theorem dX12_lists_37 : decode cX12_lists 37 = .ok (.aload_n 0, 1) := by decide +kernel
theorem dX12_lists_38 : decode cX12_lists 38 = .ok (.getfield 181, 3) := by decide +kernel
theorem dX12_lists_41 : decode cX12_lists 41 = .ok (.aload_n 0, 1) := by decide +kernel
theorem dX12_lists_42 : decode cX12_lists 42 = .ok (.getfield 600, 3) := by decide +kernel
theorem dX12_lists_45 : decode cX12_lists 45 = .ok (.iload_n 1, 1) := by decide +kernel
theorem dX12_lists_46 : decode cX12_lists 46 = .ok (.iastore, 1) := by decide +kernel
theorem dX12_lists_47 : decode cX12_lists 47 = .ok (.aload_n 0, 1) := by decide +kernel
theorem dX12_lists_48 : decode cX12_lists 48 = .ok (.dup, 1) := by decide +kernel
theorem dX12_lists_49 : decode cX12_lists 49 = .ok (.getfield 600, 3) := by decide +kernel
theorem dX12_lists_52 : decode cX12_lists 52 = .ok (.iconst 1, 1) := by decide +kernel
theorem dX12_lists_53 : decode cX12_lists 53 = .ok (.iadd, 1) := by decide +kernel
theorem dX12_lists_54 : decode cX12_lists 54 = .ok (.putfield 600, 3) := by decide +kernel
theorem dX12_lists_57 : decode cX12_lists 57 = .ok (.iinc 1 1, 3) := by decide +kernel
theorem dX12_lists_60 : decode cX12_lists 60 = .ok (.goto (-53), 3) := by decide +kernel
theorem dX12_lists_63 : decode cX12_lists 63 = .ok (.iconst 0, 1) := by decide +kernel
theorem dX12_lists_64 : decode cX12_lists 64 = .ok (.istore_n 1, 1) := by decide +kernel
theorem dX12_lists_65 : decode cX12_lists 65 = .ok (.iload_n 1, 1) := by decide +kernel
theorem dX12_lists_66 : decode cX12_lists 66 = .ok (.aload_n 0, 1) := by decide +kernel
theorem dX12_lists_67 : decode cX12_lists 67 = .ok (.getfield 600, 3) := by decide +kernel
theorem dX12_lists_70 : decode cX12_lists 70 = .ok (.if_icmp .ge 112, 3) := by decide +kernel
theorem dX12_lists_73 : decode cX12_lists 73 = .ok (.iconst 0, 1) := by decide +kernel
theorem dX12_lists_74 : decode cX12_lists 74 = .ok (.istore_n 2, 1) := by decide +kernel
theorem dX12_lists_75 : decode cX12_lists 75 = .ok (.iload_n 2, 1) := by decide +kernel
theorem dX12_lists_76 : decode cX12_lists 76 = .ok (.aload_n 0, 1) := by decide +kernel
theorem dX12_lists_77 : decode cX12_lists 77 = .ok (.getfield 600, 3) := by decide +kernel
theorem dX12_lists_80 : decode cX12_lists 80 = .ok (.if_icmp .ge 96, 3) := by decide +kernel
theorem dX12_lists_83 : decode cX12_lists 83 = .ok (.aload_n 0, 1) := by decide +kernel
theorem dX12_lists_84 : decode cX12_lists 84 = .ok (.getfield 184, 3) := by decide +kernel
theorem dX12_lists_87 : decode cX12_lists 87 = .ok (.bipush 8, 2) := by decide +kernel
theorem dX12_lists_89 : decode cX12_lists 89 = .ok (.iload_n 1, 1) := by decide +kernel
theorem dX12_lists_90 : decode cX12_lists 90 = .ok (.imul, 1) := by decide +kernel
theorem dX12_lists_91 : decode cX12_lists 91 = .ok (.iload_n 2, 1) := by decide +kernel
theorem dX12_lists_92 : decode cX12_lists 92 = .ok (.iadd, 1) := by decide +kernel
theorem dX12_lists_93 : decode cX12_lists 93 = .ok (.iconst 0, 1) := by decide +kernel
theorem dX12_lists_94 : decode cX12_lists 94 = .ok (.iastore, 1) := by decide +kernel
theorem dX12_lists_95 : decode cX12_lists 95 = .ok (.iconst 0, 1) := by decide +kernel
theorem dX12_lists_96 : decode cX12_lists 96 = .ok (.istore_n 3, 1) := by decide +kernel
theorem dX12_lists_97 : decode cX12_lists 97 = .ok (.iload_n 3, 1) := by decide +kernel
theorem dX12_lists_98 : decode cX12_lists 98 = .ok (.iconst 4, 1) := by decide +kernel
theorem dX12_lists_99 : decode cX12_lists 99 = .ok (.if_icmp .ge 71, 3) := by decide +kernel
theorem dX12_lists_102 : decode cX12_lists 102 = .ok (.aload_n 0, 1) := by decide +kernel
theorem dX12_lists_103 : decode cX12_lists 103 = .ok (.iload_n 3, 1) := by decide +kernel
theorem dX12_lists_104 : decode cX12_lists 104 = .ok (.aload_n 0, 1) := by decide +kernel
theorem dX12_lists_105 : decode cX12_lists 105 = .ok (.getfield 181, 3) := by decide +kernel
theorem dX12_lists_108 : decode cX12_lists 108 = .ok (.iload_n 1, 1) := by decide +kernel
theorem dX12_lists_109 : decode cX12_lists 109 = .ok (.iaload, 1) := by decide +kernel
theorem dX12_lists_110 : decode cX12_lists 110 = .ok (.invokevirtual 597, 3) := by decide +kernel
theorem dX12_lists_113 : decode cX12_lists 113 = .ok (.istore 4, 2) := by decide +kernel
theorem dX12_lists_115 : decode cX12_lists 115 = .ok (.aload_n 0, 1) := by decide +kernel
theorem dX12_lists_116 : decode cX12_lists 116 = .ok (.iload_n 3, 1) := by decide +kernel
theorem dX12_lists_117 : decode cX12_lists 117 = .ok (.aload_n 0, 1) := by decide +kernel
theorem dX12_lists_118 : decode cX12_lists 118 = .ok (.getfield 181, 3) := by decide +kernel
theorem dX12_lists_121 : decode cX12_lists 121 = .ok (.iload_n 2, 1) := by decide +kernel
theorem dX12_lists_122 : decode cX12_lists 122 = .ok (.iaload, 1) := by decide +kernel
theorem dX12_lists_123 : decode cX12_lists 123 = .ok (.invokevirtual 597, 3) := by decide +kernel
theorem dX12_lists_126 : decode cX12_lists 126 = .ok (.istore 5, 2) := by decide +kernel
theorem dX12_lists_128 : decode cX12_lists 128 = .ok (.aload_n 0, 1) := by decide +kernel
theorem dX12_lists_129 : decode cX12_lists 129 = .ok (.getfield 184, 3) := by decide +kernel
theorem dX12_lists_132 : decode cX12_lists 132 = .ok (.bipush 8, 2) := by decide +kernel
theorem dX12_lists_134 : decode cX12_lists 134 = .ok (.iload_n 1, 1) := by decide +kernel
theorem dX12_lists_135 : decode cX12_lists 135 = .ok (.imul, 1) := by decide +kernel
theorem dX12_lists_136 : decode cX12_lists 136 = .ok (.iload_n 2, 1) := by decide +kernel
theorem dX12_lists_137 : decode cX12_lists 137 = .ok (.iadd, 1) := by decide +kernel
theorem dX12_lists_138 : decode cX12_lists 138 = .ok (.dup2, 1) := by decide +kernel
theorem dX12_lists_139 : decode cX12_lists 139 = .ok (.iaload, 1) := by decide +kernel
theorem dX12_lists_140 : decode cX12_lists 140 = .ok (.iload 4, 2) := by decide +kernel
theorem dX12_lists_142 : decode cX12_lists 142 = .ok (.ifCond .lt 19, 3) := by decide +kernel
theorem dX12_lists_145 : decode cX12_lists 145 = .ok (.iload 5, 2) := by decide +kernel
theorem dX12_lists_147 : decode cX12_lists 147 = .ok (.ifCond .lt 14, 3) := by decide +kernel
theorem dX12_lists_150 : decode cX12_lists 150 = .ok (.iload 4, 2) := by decide +kernel
theorem dX12_lists_152 : decode cX12_lists 152 = .ok (.iload 5, 2) := by decide +kernel
theorem dX12_lists_154 : decode cX12_lists 154 = .ok (.if_icmp .ge 7, 3) := by decide +kernel
theorem dX12_lists_157 : decode cX12_lists 157 = .ok (.iconst 1, 1) := by decide +kernel
theorem dX12_lists_158 : decode cX12_lists 158 = .ok (.goto 4, 3) := by decide +kernel
theorem dX12_lists_161 : decode cX12_lists 161 = .ok (.iconst 0, 1) := by decide +kernel
theorem dX12_lists_162 : decode cX12_lists 162 = .ok (.iadd, 1) := by decide +kernel
theorem dX12_lists_163 : decode cX12_lists 163 = .ok (.iastore, 1) := by decide +kernel
theorem dX12_lists_164 : decode cX12_lists 164 = .ok (.iinc 3 1, 3) := by decide +kernel
theorem dX12_lists_167 : decode cX12_lists 167 = .ok (.goto (-70), 3) := by decide +kernel
theorem dX12_lists_170 : decode cX12_lists 170 = .ok (.iinc 2 1, 3) := by decide +kernel
theorem dX12_lists_173 : decode cX12_lists 173 = .ok (.goto (-98), 3) := by decide +kernel
theorem dX12_lists_176 : decode cX12_lists 176 = .ok (.iinc 1 1, 3) := by decide +kernel
theorem dX12_lists_179 : decode cX12_lists 179 = .ok (.goto (-114), 3) := by decide +kernel
theorem dX12_lists_182 : decode cX12_lists 182 = .ok (.aload_n 0, 1) := by decide +kernel
theorem dX12_lists_183 : decode cX12_lists 183 = .ok (.iconst (-1), 1) := by decide +kernel
theorem dX12_lists_184 : decode cX12_lists 184 = .ok (.putfield 606, 3) := by decide +kernel
theorem dX12_lists_187 : decode cX12_lists 187 = .ok (.aload_n 0, 1) := by decide +kernel
theorem dX12_lists_188 : decode cX12_lists 188 = .ok (.iconst 0, 1) := by decide +kernel
theorem dX12_lists_189 : decode cX12_lists 189 = .ok (.iconst 0, 1) := by decide +kernel
theorem dX12_lists_190 : decode cX12_lists 190 = .ok (.iconst 0, 1) := by decide +kernel
theorem dX12_lists_191 : decode cX12_lists 191 = .ok (.invokevirtual 609, 3) := by decide +kernel
theorem dX12_lists_194 : decode cX12_lists 194 = .ok (.iconst 1, 1) := by decide +kernel
theorem dX12_lists_195 : decode cX12_lists 195 = .ok (.ireturn, 1) := by decide +kernel
def B_M_lists_162 (k97 : Int32 → CS → Option (Int32 × CS)) (x1 : Int32) (x2 : Int32) (x3 : Int32) (z1 : Int32) (z2 : Int32) (z3 : Int32) (σ : CS) : Option (Int32 × CS) := gix z1 64 (k97 (x3 + 1) (wr σ 83 z1 (z2 + z3)))
set_option maxHeartbeats 4000000 in
set_option maxRecDepth 100000 in
theorem w_M_lists_162 (C : Cx g p s m args meth c A 6 cX12_lists yX12_lists.cls) (hr : meth.sig.returnType = (some .boolean))  {res : Int32 × CS}  (x1 : Int32) (x2 : Int32) (x3 : Int32) (z1 : Int32) (z2 : Int32) (z3 : Int32) {k97 : Int32 → CS → Option (Int32 × CS)} (hk97 : ∀ (x3 : Int32) (σ : CS), k97 x3 σ = some res → NMI g p l e s m args below meth c A 161 6426 6 am Rr res σ [(0, .ref (am 112)), (1, .int x1), (2, .int x2), (3, .int x3)] 97 []) (σ : CS) (h : B_M_lists_162 k97 x1 x2 x3 z1 z2 z3 σ = some res) : NMI g p l e s m args below meth c A 161 6426 6 am Rr res σ [(0, .ref (am 112)), (1, .int x1), (2, .int x2), (3, .int x3)] 162 [.int z3, .int z2, .int z1, .ref (am 83)] := by
  unfold B_M_lists_162 at h
  refine nw_iadd C dX12_lists_162 ?_
  refine nw_iast C 57 ml_83 dX12_lists_163 h ms_83 (fun h => ?_)
  refine nw_iinc (lv' := [(3, .int (x3 + 1)), (0, .ref (am 112)), (1, .int x1), (2, .int x2)]) C (x3 + 1) dX12_lists_164 3 rfl rfl (by decide) rfl ?_
  refine nw_goto (tgt := 97) C dX12_lists_167 (by decide) ?_
  exact nw_lv (lv' := [(0, .ref (am 112)), (1, .int x1), (2, .int x2), (3, .int (x3 + 1))]) [1, 2, 3, 0] rfl (hk97 (x3 + 1) _ h)
def B_M_lists_161 (k97 : Int32 → CS → Option (Int32 × CS)) (x1 : Int32) (x2 : Int32) (x3 : Int32) (z1 : Int32) (z2 : Int32) (σ : CS) : Option (Int32 × CS) := B_M_lists_162 k97 x1 x2 x3 z1 z2 0 σ
set_option maxHeartbeats 4000000 in
set_option maxRecDepth 100000 in
theorem w_M_lists_161 (C : Cx g p s m args meth c A 6 cX12_lists yX12_lists.cls) (hr : meth.sig.returnType = (some .boolean))  {res : Int32 × CS}  (x1 : Int32) (x2 : Int32) (x3 : Int32) (z1 : Int32) (z2 : Int32) {k97 : Int32 → CS → Option (Int32 × CS)} (hk97 : ∀ (x3 : Int32) (σ : CS), k97 x3 σ = some res → NMI g p l e s m args below meth c A 161 6426 6 am Rr res σ [(0, .ref (am 112)), (1, .int x1), (2, .int x2), (3, .int x3)] 97 []) (σ : CS) (h : B_M_lists_161 k97 x1 x2 x3 z1 z2 σ = some res) : NMI g p l e s m args below meth c A 161 6426 6 am Rr res σ [(0, .ref (am 112)), (1, .int x1), (2, .int x2), (3, .int x3)] 161 [.int z2, .int z1, .ref (am 83)] := by
  unfold B_M_lists_161 at h
  refine nw_iconst (v := 0) C dX12_lists_161 (by decide) ?_
  exact nw_lv (lv' := [(0, .ref (am 112)), (1, .int x1), (2, .int x2), (3, .int x3)]) [0, 1, 2, 3] rfl (w_M_lists_162 C hr x1 x2 x3 z1 z2 0 hk97 _ h)
def L_M_lists_97 (k75 : Int32 → CS → Option (Int32 × CS)) (x1 : Int32) (x2 : Int32) : Nat → Int32 → CS → Option (Int32 × CS)
  | 0, _, _ => none
  | n + 1, x3, σ => if 4 ≤ x3 then k75 (x2 + 1) σ else gix x1 8 (bnd (f_M_placeIn x3 (rd σ 82 x1) σ) (fun r110 σ110 => gix x2 8 (bnd (f_M_placeIn x3 (rd σ110 82 x2) σ110) (fun r123 σ123 => gix ((8 * x1) + x2) 64 (if r110 < 0 then B_M_lists_161 (L_M_lists_97 k75 x1 x2 n) x1 x2 x3 ((8 * x1) + x2) (rd σ123 83 ((8 * x1) + x2)) σ123 else if r123 < 0 then B_M_lists_161 (L_M_lists_97 k75 x1 x2 n) x1 x2 x3 ((8 * x1) + x2) (rd σ123 83 ((8 * x1) + x2)) σ123 else if r123 ≤ r110 then B_M_lists_161 (L_M_lists_97 k75 x1 x2 n) x1 x2 x3 ((8 * x1) + x2) (rd σ123 83 ((8 * x1) + x2)) σ123 else B_M_lists_162 (L_M_lists_97 k75 x1 x2 n) x1 x2 x3 ((8 * x1) + x2) (rd σ123 83 ((8 * x1) + x2)) 1 σ123)))))
set_option maxHeartbeats 4000000 in
set_option maxRecDepth 100000 in
theorem w_M_lists_97 (C : Cx g p s m args meth c A 6 cX12_lists yX12_lists.cls) (hr : meth.sig.returnType = (some .boolean))  {res : Int32 × CS}  (x1 : Int32) (x2 : Int32) {k75 : Int32 → CS → Option (Int32 × CS)} (hk75 : ∀ (x2 : Int32) (σ : CS), k75 x2 σ = some res → NMI g p l e s m args below meth c A 161 6426 6 am Rr res σ [(0, .ref (am 112)), (1, .int x1), (2, .int x2)] 75 []) : ∀ (n : Nat) (x3 : Int32) (σ : CS), L_M_lists_97 k75 x1 x2 n x3 σ = some res → NMI g p l e s m args below meth c A 161 6426 6 am Rr res σ [(0, .ref (am 112)), (1, .int x1), (2, .int x2), (3, .int x3)] 97 [] := by
  intro n
  induction n with
  | zero =>
    intro x3 σ h
    exact absurd (show (none : Option (Int32 × CS)) = some res from h) (by intro h9; cases h9)
  | succ n ih =>
    intro x3 σ h
    rw [L_M_lists_97] at h
    refine nw_iload_n C dX12_lists_97 rfl 3 rfl ?_
    refine nw_iconst (v := 4) C dX12_lists_98 (by decide) ?_
    refine nw_icmp_ge (tgt := 170) C dX12_lists_99 (by decide) h (fun _ h => ?_) (fun _ h => ?_)
    · refine nw_iinc (lv' := [(2, .int (x2 + 1)), (0, .ref (am 112)), (1, .int x1), (3, .int x3)]) C (x2 + 1) dX12_lists_170 2 rfl rfl (by decide) rfl ?_
      refine nw_goto (tgt := 75) C dX12_lists_173 (by decide) ?_
      exact nw_lv (lv' := [(0, .ref (am 112)), (1, .int x1), (2, .int (x2 + 1))]) [1, 2, 0] rfl (hk75 (x2 + 1) _ h)
    · refine nw_aload_n C dX12_lists_102 rfl 0 rfl ?_
      refine nw_iload_n C dX12_lists_103 rfl 3 rfl ?_
      refine nw_aload_n C dX12_lists_104 rfl 0 rfl ?_
      refine nw_get (v := .ref (am 82)) C in_X12 0 ml_O rfl 82 (by decide) tw_1655 rfl mf_82 dX12_lists_105 ?_
      refine nw_iload_n C dX12_lists_108 rfl 1 rfl ?_
      refine nw_iald C 56 ml_82 dX12_lists_109 h (fun h => ?_)
      refine nm_callVI (q0 := 0) (As := [.int x3, .int (rd σ 82 x1)]) (rest := []) C h (fun _ _ e => c_M_placeIn e) tw_2319 kv_X12_placeIn ml_O rfl ⟨Nat.le_of_ble_eq_true rfl, Nat.le_of_ble_eq_true rfl⟩ rfl dX12_lists_110 rfl (Nat.le_of_ble_eq_true rfl) (fun r110 σ110 h => ?_)
      refine nw_istore (lv' := [(4, .int r110), (0, .ref (am 112)), (1, .int x1), (2, .int x2), (3, .int x3)]) C dX12_lists_113 (by decide) rfl ?_
      refine nw_aload_n C dX12_lists_115 rfl 1 rfl ?_
      refine nw_iload_n C dX12_lists_116 rfl 4 rfl ?_
      refine nw_aload_n C dX12_lists_117 rfl 1 rfl ?_
      refine nw_get (v := .ref (am 82)) C in_X12 0 ml_O rfl 82 (by decide) tw_1655 rfl mf_82 dX12_lists_118 ?_
      refine nw_iload_n C dX12_lists_121 rfl 3 rfl ?_
      refine nw_iald C 56 ml_82 dX12_lists_122 h (fun h => ?_)
      refine nm_callVI (q0 := 0) (As := [.int x3, .int (rd σ110 82 x2)]) (rest := []) C h (fun _ _ e => c_M_placeIn e) tw_2319 kv_X12_placeIn ml_O rfl ⟨Nat.le_of_ble_eq_true rfl, Nat.le_of_ble_eq_true rfl⟩ rfl dX12_lists_123 rfl (Nat.le_of_ble_eq_true rfl) (fun r123 σ123 h => ?_)
      refine nw_istore (lv' := [(5, .int r123), (4, .int r110), (0, .ref (am 112)), (1, .int x1), (2, .int x2), (3, .int x3)]) C dX12_lists_126 (by decide) rfl ?_
      refine nw_aload_n C dX12_lists_128 rfl 2 rfl ?_
      refine nw_get (v := .ref (am 83)) C in_X12 0 ml_O rfl 83 (by decide) tw_1656 rfl mf_83 dX12_lists_129 ?_
      refine nw_bipush (v := 8) C dX12_lists_132 (by decide) ?_
      refine nw_iload_n C dX12_lists_134 rfl 3 rfl ?_
      refine nw_imul C dX12_lists_135 ?_
      refine nw_iload_n C dX12_lists_136 rfl 4 rfl ?_
      refine nw_iadd C dX12_lists_137 ?_
      refine nw_dup2 C dX12_lists_138 rfl rfl ?_
      refine nw_iald C 57 ml_83 dX12_lists_139 h (fun h => ?_)
      refine nw_iload C dX12_lists_140 1 rfl ?_
      refine nw_if_lt (tgt := 161) C dX12_lists_142 (by decide) h (fun _ h => ?_) (fun _ h => ?_)
      · exact nw_lv (lv' := [(0, .ref (am 112)), (1, .int x1), (2, .int x2), (3, .int x3)]) [2, 3, 4, 5] rfl (w_M_lists_161 C hr x1 x2 x3 ((8 * x1) + x2) (rd σ123 83 ((8 * x1) + x2)) ih _ h)
      · refine nw_iload C dX12_lists_145 0 rfl ?_
        refine nw_if_lt (tgt := 161) C dX12_lists_147 (by decide) h (fun _ h => ?_) (fun _ h => ?_)
        · exact nw_lv (lv' := [(0, .ref (am 112)), (1, .int x1), (2, .int x2), (3, .int x3)]) [2, 3, 4, 5] rfl (w_M_lists_161 C hr x1 x2 x3 ((8 * x1) + x2) (rd σ123 83 ((8 * x1) + x2)) ih _ h)
        · refine nw_iload C dX12_lists_150 1 rfl ?_
          refine nw_iload C dX12_lists_152 0 rfl ?_
          refine nw_icmp_ge (tgt := 161) C dX12_lists_154 (by decide) h (fun _ h => ?_) (fun _ h => ?_)
          · exact nw_lv (lv' := [(0, .ref (am 112)), (1, .int x1), (2, .int x2), (3, .int x3)]) [2, 3, 4, 5] rfl (w_M_lists_161 C hr x1 x2 x3 ((8 * x1) + x2) (rd σ123 83 ((8 * x1) + x2)) ih _ h)
          · refine nw_iconst (v := 1) C dX12_lists_157 (by decide) ?_
            refine nw_goto (tgt := 162) C dX12_lists_158 (by decide) ?_
            exact nw_lv (lv' := [(0, .ref (am 112)), (1, .int x1), (2, .int x2), (3, .int x3)]) [2, 3, 4, 5] rfl (w_M_lists_162 C hr x1 x2 x3 ((8 * x1) + x2) (rd σ123 83 ((8 * x1) + x2)) 1 ih _ h)
def L_M_lists_75 (k65 : Int32 → CS → Option (Int32 × CS)) (x1 : Int32) : Nat → Int32 → CS → Option (Int32 × CS)
  | 0, _, _ => none
  | n + 1, x2, σ => if (σ.1 86) ≤ x2 then k65 (x1 + 1) σ else gix ((8 * x1) + x2) 64 (L_M_lists_97 (L_M_lists_75 k65 x1 n) x1 x2 FU 0 (wr σ 83 ((8 * x1) + x2) 0))
set_option maxHeartbeats 4000000 in
set_option maxRecDepth 100000 in
theorem w_M_lists_75 (C : Cx g p s m args meth c A 6 cX12_lists yX12_lists.cls) (hr : meth.sig.returnType = (some .boolean))  {res : Int32 × CS}  (x1 : Int32) {k65 : Int32 → CS → Option (Int32 × CS)} (hk65 : ∀ (x1 : Int32) (σ : CS), k65 x1 σ = some res → NMI g p l e s m args below meth c A 161 6426 6 am Rr res σ [(0, .ref (am 112)), (1, .int x1)] 65 []) : ∀ (n : Nat) (x2 : Int32) (σ : CS), L_M_lists_75 k65 x1 n x2 σ = some res → NMI g p l e s m args below meth c A 161 6426 6 am Rr res σ [(0, .ref (am 112)), (1, .int x1), (2, .int x2)] 75 [] := by
  intro n
  induction n with
  | zero =>
    intro x2 σ h
    exact absurd (show (none : Option (Int32 × CS)) = some res from h) (by intro h9; cases h9)
  | succ n ih =>
    intro x2 σ h
    rw [L_M_lists_75] at h
    refine nw_iload_n C dX12_lists_75 rfl 2 rfl ?_
    refine nw_aload_n C dX12_lists_76 rfl 0 rfl ?_
    refine nw_get (v := .int (σ.1 86)) C in_X12 0 ml_O rfl 86 (by decide) tw_1659 rfl mf_86 dX12_lists_77 ?_
    refine nw_icmp_ge (tgt := 176) C dX12_lists_80 (by decide) h (fun _ h => ?_) (fun _ h => ?_)
    · refine nw_iinc (lv' := [(1, .int (x1 + 1)), (0, .ref (am 112)), (2, .int x2)]) C (x1 + 1) dX12_lists_176 1 rfl rfl (by decide) rfl ?_
      refine nw_goto (tgt := 65) C dX12_lists_179 (by decide) ?_
      exact nw_lv (lv' := [(0, .ref (am 112)), (1, .int (x1 + 1))]) [1, 0] rfl (hk65 (x1 + 1) _ h)
    · refine nw_aload_n C dX12_lists_83 rfl 0 rfl ?_
      refine nw_get (v := .ref (am 83)) C in_X12 0 ml_O rfl 83 (by decide) tw_1656 rfl mf_83 dX12_lists_84 ?_
      refine nw_bipush (v := 8) C dX12_lists_87 (by decide) ?_
      refine nw_iload_n C dX12_lists_89 rfl 1 rfl ?_
      refine nw_imul C dX12_lists_90 ?_
      refine nw_iload_n C dX12_lists_91 rfl 2 rfl ?_
      refine nw_iadd C dX12_lists_92 ?_
      refine nw_iconst (v := 0) C dX12_lists_93 (by decide) ?_
      refine nw_iast C 57 ml_83 dX12_lists_94 h ms_83 (fun h => ?_)
      refine nw_iconst (v := 0) C dX12_lists_95 (by decide) ?_
      refine nw_istore_n (lv' := [(3, .int 0), (0, .ref (am 112)), (1, .int x1), (2, .int x2)]) C dX12_lists_96 rfl (by decide) rfl ?_
      exact nw_lv (lv' := [(0, .ref (am 112)), (1, .int x1), (2, .int x2), (3, .int 0)]) [1, 2, 3, 0] rfl (w_M_lists_97 C hr x1 x2 ih FU 0 _ h)
def L_M_lists_65 (k182 : CS → Option (Int32 × CS))  : Nat → Int32 → CS → Option (Int32 × CS)
  | 0, _, _ => none
  | n + 1, x1, σ => if (σ.1 86) ≤ x1 then k182 σ else L_M_lists_75 (L_M_lists_65 k182 n) x1 FU 0 σ
set_option maxHeartbeats 4000000 in
set_option maxRecDepth 100000 in
theorem w_M_lists_65 (C : Cx g p s m args meth c A 6 cX12_lists yX12_lists.cls) (hr : meth.sig.returnType = (some .boolean))  {res : Int32 × CS}   {k182 : CS → Option (Int32 × CS)} (hk182 : ∀  (σ : CS), k182  σ = some res → NMI g p l e s m args below meth c A 161 6426 6 am Rr res σ [(0, .ref (am 112))] 182 []) : ∀ (n : Nat) (x1 : Int32) (σ : CS), L_M_lists_65 k182 n x1 σ = some res → NMI g p l e s m args below meth c A 161 6426 6 am Rr res σ [(0, .ref (am 112)), (1, .int x1)] 65 [] := by
  intro n
  induction n with
  | zero =>
    intro x1 σ h
    exact absurd (show (none : Option (Int32 × CS)) = some res from h) (by intro h9; cases h9)
  | succ n ih =>
    intro x1 σ h
    rw [L_M_lists_65] at h
    refine nw_iload_n C dX12_lists_65 rfl 1 rfl ?_
    refine nw_aload_n C dX12_lists_66 rfl 0 rfl ?_
    refine nw_get (v := .int (σ.1 86)) C in_X12 0 ml_O rfl 86 (by decide) tw_1659 rfl mf_86 dX12_lists_67 ?_
    refine nw_icmp_ge (tgt := 182) C dX12_lists_70 (by decide) h (fun _ h => ?_) (fun _ h => ?_)
    · exact nw_lv (lv' := [(0, .ref (am 112))]) [0] rfl (hk182  _ h)
    · refine nw_iconst (v := 0) C dX12_lists_73 (by decide) ?_
      refine nw_istore_n (lv' := [(2, .int 0), (0, .ref (am 112)), (1, .int x1)]) C dX12_lists_74 rfl (by decide) rfl ?_
      exact nw_lv (lv' := [(0, .ref (am 112)), (1, .int x1), (2, .int 0)]) [1, 2, 0] rfl (w_M_lists_75 C hr x1 ih FU 0 _ h)
def L_M_lists_7 (k182 : CS → Option (Int32 × CS))  : Nat → Int32 → CS → Option (Int32 × CS)
  | 0, _, _ => none
  | n + 1, x1, σ => if (σ.1 60) ≤ x1 then L_M_lists_65 k182 FU 0 σ else bnd (f_M_isListed x1 σ) (fun r17 σ17 => if r17 = 0 then (L_M_lists_7 k182 n) (x1 + 1) σ17 else if (σ17.1 86) = 8 then some (0, σ17) else gix (σ17.1 86) 8 ((L_M_lists_7 k182 n) (x1 + 1) (sF (wr σ17 82 (σ17.1 86) x1) 86 ((σ17.1 86) + 1))))
set_option maxHeartbeats 4000000 in
set_option maxRecDepth 100000 in
theorem w_M_lists_7 (C : Cx g p s m args meth c A 6 cX12_lists yX12_lists.cls) (hr : meth.sig.returnType = (some .boolean))  {res : Int32 × CS}   {k182 : CS → Option (Int32 × CS)} (hk182 : ∀  (σ : CS), k182  σ = some res → NMI g p l e s m args below meth c A 161 6426 6 am Rr res σ [(0, .ref (am 112))] 182 []) : ∀ (n : Nat) (x1 : Int32) (σ : CS), L_M_lists_7 k182 n x1 σ = some res → NMI g p l e s m args below meth c A 161 6426 6 am Rr res σ [(0, .ref (am 112)), (1, .int x1)] 7 [] := by
  intro n
  induction n with
  | zero =>
    intro x1 σ h
    exact absurd (show (none : Option (Int32 × CS)) = some res from h) (by intro h9; cases h9)
  | succ n ih =>
    intro x1 σ h
    rw [L_M_lists_7] at h
    refine nw_iload_n C dX12_lists_7 rfl 1 rfl ?_
    refine nw_aload_n C dX12_lists_8 rfl 0 rfl ?_
    refine nw_get (v := .int (σ.1 60)) C in_X12 0 ml_O rfl 60 (by decide) tw_1633 rfl mf_60 dX12_lists_9 ?_
    refine nw_icmp_ge (tgt := 63) C dX12_lists_12 (by decide) h (fun _ h => ?_) (fun _ h => ?_)
    · refine nw_iconst (v := 0) C dX12_lists_63 (by decide) ?_
      refine nw_istore_n (lv' := [(1, .int 0), (0, .ref (am 112))]) C dX12_lists_64 rfl (by decide) rfl ?_
      exact nw_lv (lv' := [(0, .ref (am 112)), (1, .int 0)]) [1, 0] rfl (w_M_lists_65 C hr hk182 FU 0 _ h)
    · refine nw_aload_n C dX12_lists_15 rfl 0 rfl ?_
      refine nw_iload_n C dX12_lists_16 rfl 1 rfl ?_
      refine nm_callVI (q0 := 0) (As := [.int x1]) (rest := []) C h (fun _ _ e => c_M_isListed e) tw_2315 kv_X12_isListed ml_O rfl ⟨Nat.le_of_ble_eq_true rfl, Nat.le_of_ble_eq_true rfl⟩ rfl dX12_lists_17 rfl (Nat.le_of_ble_eq_true rfl) (fun r17 σ17 h => ?_)
      refine nw_if_ne (tgt := 26) C dX12_lists_20 (by decide) h (fun _ h => ?_) (fun _ h => ?_)
      · refine nw_goto (tgt := 57) C dX12_lists_23 (by decide) ?_
        refine nw_iinc (lv' := [(1, .int (x1 + 1)), (0, .ref (am 112))]) C (x1 + 1) dX12_lists_57 1 rfl rfl (by decide) rfl ?_
        refine nw_goto (tgt := 7) C dX12_lists_60 (by decide) ?_
        exact nw_lv (lv' := [(0, .ref (am 112)), (1, .int (x1 + 1))]) [1, 0] rfl (ih (x1 + 1) _ h)
      · refine nw_aload_n C dX12_lists_26 rfl 0 rfl ?_
        refine nw_get (v := .int (σ17.1 86)) C in_X12 0 ml_O rfl 86 (by decide) tw_1659 rfl mf_86 dX12_lists_27 ?_
        refine nw_bipush (v := 8) C dX12_lists_30 (by decide) ?_
        refine nw_icmp_ne (tgt := 37) C dX12_lists_32 (by decide) h (fun _ h => ?_) (fun _ h => ?_)
        · refine nw_iconst (v := 0) C dX12_lists_35 (by decide) ?_
          exact nm_zret C hr (Or.inl rfl) dX12_lists_36 h
        · refine nw_aload_n C dX12_lists_37 rfl 0 rfl ?_
          refine nw_get (v := .ref (am 82)) C in_X12 0 ml_O rfl 82 (by decide) tw_1655 rfl mf_82 dX12_lists_38 ?_
          refine nw_aload_n C dX12_lists_41 rfl 0 rfl ?_
          refine nw_get (v := .int (σ17.1 86)) C in_X12 0 ml_O rfl 86 (by decide) tw_1659 rfl mf_86 dX12_lists_42 ?_
          refine nw_iload_n C dX12_lists_45 rfl 1 rfl ?_
          refine nw_iast C 56 ml_82 dX12_lists_46 h ms_82 (fun h => ?_)
          refine nw_aload_n C dX12_lists_47 rfl 0 rfl ?_
          refine nw_dup C dX12_lists_48 rfl ?_
          refine nw_get (v := .int (σ17.1 86)) C in_X12 0 ml_O rfl 86 (by decide) tw_1659 rfl rfl dX12_lists_49 ?_
          refine nw_iconst (v := 1) C dX12_lists_52 (by decide) ?_
          refine nw_iadd C dX12_lists_53 ?_
          refine nw_put (ty := .int) C in_X12 0 ml_O rfl 86 (by decide) tyX12 tyX12_ok nmX12 tw_1659 rfl rfl (by decide +kernel) rfl rfl (Nat.le_of_ble_eq_true rfl) dX12_lists_54 ms_86 ?_
          refine nw_iinc (lv' := [(1, .int (x1 + 1)), (0, .ref (am 112))]) C (x1 + 1) dX12_lists_57 1 rfl rfl (by decide) rfl ?_
          refine nw_goto (tgt := 7) C dX12_lists_60 (by decide) ?_
          exact nw_lv (lv' := [(0, .ref (am 112)), (1, .int (x1 + 1))]) [1, 0] rfl (ih (x1 + 1) _ h)
def B_M_lists_182    (σ : CS) : Option (Int32 × CS) := bnd (g_MO 16 0 0 0 0 (sF σ 87 (-1))) (fun _ σ191 => some (1, σ191))
set_option maxHeartbeats 4000000 in
set_option maxRecDepth 100000 in
theorem w_M_lists_182 (C : Cx g p s m args meth c A 6 cX12_lists yX12_lists.cls) (hr : meth.sig.returnType = (some .boolean))  {res : Int32 × CS}     (σ : CS) (h : B_M_lists_182 σ = some res) : NMI g p l e s m args below meth c A 161 6426 6 am Rr res σ [(0, .ref (am 112))] 182 [] := by
  unfold B_M_lists_182 at h
  refine nw_aload_n C dX12_lists_182 rfl 0 rfl ?_
  refine nw_iconst (v := (-1)) C dX12_lists_183 (by decide) ?_
  refine nw_put (ty := .int) C in_X12 0 ml_O rfl 87 (by decide) tyX12 tyX12_ok nmX12 tw_1660 rfl rfl (by decide +kernel) rfl rfl (Nat.le_of_ble_eq_true rfl) dX12_lists_184 ms_87 ?_
  refine nw_aload_n C dX12_lists_187 rfl 0 rfl ?_
  refine nw_iconst (v := 0) C dX12_lists_188 (by decide) ?_
  refine nw_iconst (v := 0) C dX12_lists_189 (by decide) ?_
  refine nw_iconst (v := 0) C dX12_lists_190 (by decide) ?_
  refine nm_callVV (q0 := 0) (As := [.int 0, .int 0, .int 0]) (rest := []) C h (fun _ _ e => cg_M_orders 16 e) tw_2323 kv_X12_orders ml_O rfl ⟨Nat.le_of_ble_eq_true rfl, Nat.le_of_ble_eq_true rfl⟩ rfl dX12_lists_191 rfl (Nat.le_of_ble_eq_true rfl) (fun r191 σ191 h => ?_)
  refine nw_iconst (v := 1) C dX12_lists_194 (by decide) ?_
  exact nm_zret C hr (Or.inr rfl) dX12_lists_195 h
def f_M_lists  (σ : CS) : Option (Int32 × CS) := L_M_lists_7 (B_M_lists_182) FU 0 (sF σ 86 0)
set_option maxHeartbeats 4000000 in
set_option maxRecDepth 100000 in
theorem c_M_lists {l : Launch} {g : EG} {am : Nat → Nat} {Rr : va_W} {σ σ' : CS} {r : Int32}   (h : f_M_lists σ = some (r, σ')) : CmI l g yX12_lists (.code yX12_lists cX12_lists 6 (some .boolean)) 161 6426 am Rr σ [.ref (am 112)] r σ' := by
  refine Ct.of rfl (by decide) (Nat.le_of_ble_eq_true rfl) ?_
  intro p e s m args below meth c A C hr
  show NMI g p l e s m args below meth c A 161 6426 6 am Rr (r, σ') σ [(0, .ref (am 112))] 0 []
  unfold f_M_lists at h
  refine nw_aload_n C dX12_lists_0 rfl 0 rfl ?_
  refine nw_iconst (v := 0) C dX12_lists_1 (by decide) ?_
  refine nw_put (ty := .int) C in_X12 0 ml_O rfl 86 (by decide) tyX12 tyX12_ok nmX12 tw_1659 rfl rfl (by decide +kernel) rfl rfl (Nat.le_of_ble_eq_true rfl) dX12_lists_2 ms_86 ?_
  refine nw_iconst (v := 0) C dX12_lists_5 (by decide) ?_
  refine nw_istore_n (lv' := [(1, .int 0), (0, .ref (am 112))]) C dX12_lists_6 rfl (by decide) rfl ?_
  exact nw_lv (lv' := [(0, .ref (am 112)), (1, .int 0)]) [1, 0] rfl (w_M_lists_7 C hr (fun σ_ h_ => w_M_lists_182 C hr σ_ h_) FU 0 _ h)
theorem dX12_quarrel_0 : decode cX12_quarrel 0 = .ok (.aload_n 0, 1) := by decide +kernel
theorem dX12_quarrel_1 : decode cX12_quarrel 1 = .ok (.iconst 0, 1) := by decide +kernel
theorem dX12_quarrel_2 : decode cX12_quarrel 2 = .ok (.putfield 253, 3) := by decide +kernel
theorem dX12_quarrel_5 : decode cX12_quarrel 5 = .ok (.aload_n 0, 1) := by decide +kernel
theorem dX12_quarrel_6 : decode cX12_quarrel 6 = .ok (.invokevirtual 613, 3) := by decide +kernel
theorem dX12_quarrel_9 : decode cX12_quarrel 9 = .ok (.ifCond .eq 10, 3) := by decide +kernel
theorem dX12_quarrel_12 : decode cX12_quarrel 12 = .ok (.aload_n 0, 1) := by decide +kernel
theorem dX12_quarrel_13 : decode cX12_quarrel 13 = .ok (.getfield 606, 3) := by decide +kernel
theorem dX12_quarrel_16 : decode cX12_quarrel 16 = .ok (.goto 4, 3) := by decide +kernel
theorem dX12_quarrel_19 : decode cX12_quarrel 19 = .ok (.iconst (-1), 1) := by decide +kernel
theorem dX12_quarrel_20 : decode cX12_quarrel 20 = .ok (.ireturn, 1) := by decide +kernel
def f_M_quarrel  (σ : CS) : Option (Int32 × CS) := bnd (f_M_lists (sF σ 0 0)) (fun r6 σ6 => if r6 = 0 then some ((-1), σ6) else some ((σ6.1 87), σ6))
set_option maxHeartbeats 4000000 in
set_option maxRecDepth 100000 in
theorem c_M_quarrel {l : Launch} {g : EG} {am : Nat → Nat} {Rr : va_W} {σ σ' : CS} {r : Int32}   (h : f_M_quarrel σ = some (r, σ')) : CmI l g yX12_quarrel (.code yX12_quarrel cX12_quarrel 1 (some .int)) 162 6451 am Rr σ [.ref (am 112)] r σ' := by
  refine Ct.of rfl (by decide) (Nat.le_of_ble_eq_true rfl) ?_
  intro p e s m args below meth c A C hr
  show NMI g p l e s m args below meth c A 162 6451 1 am Rr (r, σ') σ [(0, .ref (am 112))] 0 []
  unfold f_M_quarrel at h
  refine nw_aload_n C dX12_quarrel_0 rfl 0 rfl ?_
  refine nw_iconst (v := 0) C dX12_quarrel_1 (by decide) ?_
  refine nw_put (ty := .int) C in_X12 0 ml_O rfl 0 (by decide) tyX12 tyX12_ok nmX12 tw_1573 rfl rfl (by decide +kernel) rfl rfl (Nat.le_of_ble_eq_true rfl) dX12_quarrel_2 ms_0 ?_
  refine nw_aload_n C dX12_quarrel_5 rfl 0 rfl ?_
  refine nm_callVI (q0 := 0) (As := []) (rest := []) C h (fun _ _ e => c_M_lists e) tw_2311 kv_X12_lists ml_O rfl ⟨Nat.le_of_ble_eq_true rfl, Nat.le_of_ble_eq_true rfl⟩ rfl dX12_quarrel_6 rfl (Nat.le_of_ble_eq_true rfl) (fun r6 σ6 h => ?_)
  refine nw_if_eq (tgt := 19) C dX12_quarrel_9 (by decide) h (fun _ h => ?_) (fun _ h => ?_)
  · refine nw_iconst (v := (-1)) C dX12_quarrel_19 (by decide) ?_
    exact nm_iret C hr dX12_quarrel_20 h
  · refine nw_aload_n C dX12_quarrel_12 rfl 0 rfl ?_
    refine nw_get (v := .int (σ6.1 87)) C in_X12 0 ml_O rfl 87 (by decide) tw_1660 rfl mf_87 dX12_quarrel_13 ?_
    refine nw_goto (tgt := 20) C dX12_quarrel_16 (by decide) ?_
    exact nm_iret C hr dX12_quarrel_20 h
theorem dX12_apart_0 : decode cX12_apart 0 = .ok (.iconst 0, 1) := by decide +kernel
theorem dX12_apart_1 : decode cX12_apart 1 = .ok (.istore_n 3, 1) := by decide +kernel
theorem dX12_apart_2 : decode cX12_apart 2 = .ok (.iconst 0, 1) := by decide +kernel
theorem dX12_apart_3 : decode cX12_apart 3 = .ok (.istore 4, 2) := by decide +kernel
theorem dX12_apart_5 : decode cX12_apart 5 = .ok (.iload 4, 2) := by decide +kernel
theorem dX12_apart_7 : decode cX12_apart 7 = .ok (.iconst 4, 1) := by decide +kernel
theorem dX12_apart_8 : decode cX12_apart 8 = .ok (.if_icmp .ge 48, 3) := by decide +kernel
theorem dX12_apart_11 : decode cX12_apart 11 = .ok (.aload_n 0, 1) := by decide +kernel
theorem dX12_apart_12 : decode cX12_apart 12 = .ok (.iload 4, 2) := by decide +kernel
theorem dX12_apart_14 : decode cX12_apart 14 = .ok (.iload_n 1, 1) := by decide +kernel
theorem dX12_apart_15 : decode cX12_apart 15 = .ok (.invokevirtual 597, 3) := by decide +kernel
theorem dX12_apart_18 : decode cX12_apart 18 = .ok (.istore 5, 2) := by decide +kernel
theorem dX12_apart_20 : decode cX12_apart 20 = .ok (.iload_n 3, 1) := by decide +kernel
theorem dX12_apart_21 : decode cX12_apart 21 = .ok (.iload 5, 2) := by decide +kernel
theorem dX12_apart_23 : decode cX12_apart 23 = .ok (.ifCond .ge 7, 3) := by decide +kernel
theorem dX12_apart_26 : decode cX12_apart 26 = .ok (.iconst 0, 1) := by decide +kernel
theorem dX12_apart_27 : decode cX12_apart 27 = .ok (.goto 21, 3) := by decide +kernel
theorem dX12_apart_30 : decode cX12_apart 30 = .ok (.aload_n 0, 1) := by decide +kernel
theorem dX12_apart_31 : decode cX12_apart 31 = .ok (.getfield 178, 3) := by decide +kernel
theorem dX12_apart_34 : decode cX12_apart 34 = .ok (.bipush 8, 2) := by decide +kernel
theorem dX12_apart_36 : decode cX12_apart 36 = .ok (.iload 4, 2) := by decide +kernel
theorem dX12_apart_38 : decode cX12_apart 38 = .ok (.imul, 1) := by decide +kernel
theorem dX12_apart_39 : decode cX12_apart 39 = .ok (.iload 5, 2) := by decide +kernel
theorem dX12_apart_41 : decode cX12_apart 41 = .ok (.iadd, 1) := by decide +kernel
theorem dX12_apart_42 : decode cX12_apart 42 = .ok (.iaload, 1) := by decide +kernel
theorem dX12_apart_43 : decode cX12_apart 43 = .ok (.iload_n 2, 1) := by decide +kernel
theorem dX12_apart_44 : decode cX12_apart 44 = .ok (.isub, 1) := by decide +kernel
theorem dX12_apart_45 : decode cX12_apart 45 = .ok (.invokestatic 322, 3) := by decide +kernel
theorem dX12_apart_48 : decode cX12_apart 48 = .ok (.iadd, 1) := by decide +kernel
theorem dX12_apart_49 : decode cX12_apart 49 = .ok (.istore_n 3, 1) := by decide +kernel
theorem dX12_apart_50 : decode cX12_apart 50 = .ok (.iinc 4 1, 3) := by decide +kernel
theorem dX12_apart_53 : decode cX12_apart 53 = .ok (.goto (-48), 3) := by decide +kernel
theorem dX12_apart_56 : decode cX12_apart 56 = .ok (.iload_n 3, 1) := by decide +kernel
theorem dX12_apart_57 : decode cX12_apart 57 = .ok (.ireturn, 1) := by decide +kernel
def B_M_apart_48 (k5 : Int32 → Int32 → CS → Option (Int32 × CS)) (x1 : Int32) (x2 : Int32) (x4 : Int32) (z0 : Int32) (z1 : Int32) (σ : CS) : Option (Int32 × CS) := k5 (z0 + z1) (x4 + 1) σ
set_option maxHeartbeats 4000000 in
set_option maxRecDepth 100000 in
theorem w_M_apart_48 (C : Cx g p s m args meth c A 6 cX12_apart yX12_apart.cls) (hr : meth.sig.returnType = (some .int))  {res : Int32 × CS}  (x1 : Int32) (x2 : Int32) (x4 : Int32) (z0 : Int32) (z1 : Int32) {k5 : Int32 → Int32 → CS → Option (Int32 × CS)} (hk5 : ∀ (x3 : Int32) (x4 : Int32) (σ : CS), k5 x3 x4 σ = some res → NMI g p l e s m args below meth c A 1 23 6 am Rr res σ [(0, .ref (am 112)), (1, .int x1), (2, .int x2), (3, .int x3), (4, .int x4)] 5 []) (σ : CS) (h : B_M_apart_48 k5 x1 x2 x4 z0 z1 σ = some res) : NMI g p l e s m args below meth c A 1 23 6 am Rr res σ [(0, .ref (am 112)), (1, .int x1), (2, .int x2), (4, .int x4)] 48 [.int z1, .int z0] := by
  unfold B_M_apart_48 at h
  refine nw_iadd C dX12_apart_48 ?_
  refine nw_istore_n (lv' := [(3, .int (z0 + z1)), (0, .ref (am 112)), (1, .int x1), (2, .int x2), (4, .int x4)]) C dX12_apart_49 rfl (by decide) rfl ?_
  refine nw_iinc (lv' := [(4, .int (x4 + 1)), (3, .int (z0 + z1)), (0, .ref (am 112)), (1, .int x1), (2, .int x2)]) C (x4 + 1) dX12_apart_50 4 rfl rfl (by decide) rfl ?_
  refine nw_goto (tgt := 5) C dX12_apart_53 (by decide) ?_
  exact nw_lv (lv' := [(0, .ref (am 112)), (1, .int x1), (2, .int x2), (3, .int (z0 + z1)), (4, .int (x4 + 1))]) [2, 3, 4, 1, 0] rfl (hk5 (z0 + z1) (x4 + 1) _ h)
def L_M_apart_5  (x1 : Int32) (x2 : Int32) : Nat → Int32 → Int32 → CS → Option (Int32 × CS)
  | 0, _, _, _ => none
  | n + 1, x3, x4, σ => if 4 ≤ x4 then some (x3, σ) else bnd (f_M_placeIn x4 x1 σ) (fun r15 σ15 => if 0 ≤ r15 then gix ((8 * x4) + r15) 32 (bnd (f_M_size ((rd σ15 81 ((8 * x4) + r15)) - x2) σ15) (fun r45 σ45 => B_M_apart_48 (L_M_apart_5 x1 x2 n) x1 x2 x4 x3 r45 σ45)) else B_M_apart_48 (L_M_apart_5 x1 x2 n) x1 x2 x4 x3 0 σ15)
set_option maxHeartbeats 4000000 in
set_option maxRecDepth 100000 in
theorem w_M_apart_5 (C : Cx g p s m args meth c A 6 cX12_apart yX12_apart.cls) (hr : meth.sig.returnType = (some .int))  {res : Int32 × CS}  (x1 : Int32) (x2 : Int32)  : ∀ (n : Nat) (x3 : Int32) (x4 : Int32) (σ : CS), L_M_apart_5 x1 x2 n x3 x4 σ = some res → NMI g p l e s m args below meth c A 1 23 6 am Rr res σ [(0, .ref (am 112)), (1, .int x1), (2, .int x2), (3, .int x3), (4, .int x4)] 5 [] := by
  intro n
  induction n with
  | zero =>
    intro x3 x4 σ h
    exact absurd (show (none : Option (Int32 × CS)) = some res from h) (by intro h9; cases h9)
  | succ n ih =>
    intro x3 x4 σ h
    rw [L_M_apart_5] at h
    refine nw_iload C dX12_apart_5 4 rfl ?_
    refine nw_iconst (v := 4) C dX12_apart_7 (by decide) ?_
    refine nw_icmp_ge (tgt := 56) C dX12_apart_8 (by decide) h (fun _ h => ?_) (fun _ h => ?_)
    · refine nw_iload_n C dX12_apart_56 rfl 3 rfl ?_
      exact nm_iret C hr dX12_apart_57 h
    · refine nw_aload_n C dX12_apart_11 rfl 0 rfl ?_
      refine nw_iload C dX12_apart_12 4 rfl ?_
      refine nw_iload_n C dX12_apart_14 rfl 1 rfl ?_
      refine nm_callVI (q0 := 0) (As := [.int x4, .int x1]) (rest := []) C h (fun _ _ e => c_M_placeIn e) tw_2319 kv_X12_placeIn ml_O rfl ⟨Nat.le_of_ble_eq_true rfl, Nat.le_of_ble_eq_true rfl⟩ rfl dX12_apart_15 rfl (Nat.le_of_ble_eq_true rfl) (fun r15 σ15 h => ?_)
      refine nw_istore (lv' := [(5, .int r15), (0, .ref (am 112)), (1, .int x1), (2, .int x2), (3, .int x3), (4, .int x4)]) C dX12_apart_18 (by decide) rfl ?_
      refine nw_iload_n C dX12_apart_20 rfl 4 rfl ?_
      refine nw_iload C dX12_apart_21 0 rfl ?_
      refine nw_if_ge (tgt := 30) C dX12_apart_23 (by decide) h (fun _ h => ?_) (fun _ h => ?_)
      · refine nw_aload_n C dX12_apart_30 rfl 1 rfl ?_
        refine nw_get (v := .ref (am 81)) C in_X12 0 ml_O rfl 81 (by decide) tw_1654 rfl mf_81 dX12_apart_31 ?_
        refine nw_bipush (v := 8) C dX12_apart_34 (by decide) ?_
        refine nw_iload C dX12_apart_36 5 rfl ?_
        refine nw_imul C dX12_apart_38 ?_
        refine nw_iload C dX12_apart_39 0 rfl ?_
        refine nw_iadd C dX12_apart_41 ?_
        refine nw_iald C 55 ml_81 dX12_apart_42 h (fun h => ?_)
        refine nw_iload_n C dX12_apart_43 rfl 3 rfl ?_
        refine nw_isub C dX12_apart_44 ?_
        refine nm_callSI  (As := [.int ((rd σ15 81 ((8 * x4) + r15)) - x2)]) (rest := [.int x3]) C h (fun _ _ e => c_M_size e) tw_2006 ks_X12_size ⟨Nat.le_of_ble_eq_true rfl, Nat.le_of_ble_eq_true rfl⟩ rfl dX12_apart_45 rfl (Nat.le_of_ble_eq_true rfl) (fun r45 σ45 h => ?_)
        exact nw_lv (lv' := [(0, .ref (am 112)), (1, .int x1), (2, .int x2), (4, .int x4)]) [1, 2, 3, 5] rfl (w_M_apart_48 C hr x1 x2 x4 x3 r45 ih _ h)
      · refine nw_iconst (v := 0) C dX12_apart_26 (by decide) ?_
        refine nw_goto (tgt := 48) C dX12_apart_27 (by decide) ?_
        exact nw_lv (lv' := [(0, .ref (am 112)), (1, .int x1), (2, .int x2), (4, .int x4)]) [1, 2, 3, 5] rfl (w_M_apart_48 C hr x1 x2 x4 x3 0 ih _ h)
def f_M_apart (p0 : Int32) (p1 : Int32) (σ : CS) : Option (Int32 × CS) := L_M_apart_5 p0 p1 FU 0 0 σ
set_option maxHeartbeats 4000000 in
set_option maxRecDepth 100000 in
theorem c_M_apart {l : Launch} {g : EG} {am : Nat → Nat} {Rr : va_W} {σ σ' : CS} {r : Int32} {p0 : Int32} {p1 : Int32}  (h : f_M_apart p0 p1 σ = some (r, σ')) : CmI l g yX12_apart (.code yX12_apart cX12_apart 6 (some .int)) 1 23 am Rr σ [.ref (am 112), .int p0, .int p1] r σ' := by
  refine Ct.of rfl (by decide) (Nat.le_of_ble_eq_true rfl) ?_
  intro p e s m args below meth c A C hr
  show NMI g p l e s m args below meth c A 1 23 6 am Rr (r, σ') σ [(0, .ref (am 112)), (1, .int p0), (2, .int p1)] 0 []
  unfold f_M_apart at h
  refine nw_iconst (v := 0) C dX12_apart_0 (by decide) ?_
  refine nw_istore_n (lv' := [(3, .int 0), (0, .ref (am 112)), (1, .int p0), (2, .int p1)]) C dX12_apart_1 rfl (by decide) rfl ?_
  refine nw_iconst (v := 0) C dX12_apart_2 (by decide) ?_
  refine nw_istore (lv' := [(4, .int 0), (3, .int 0), (0, .ref (am 112)), (1, .int p0), (2, .int p1)]) C dX12_apart_3 (by decide) rfl ?_
  exact nw_lv (lv' := [(0, .ref (am 112)), (1, .int p0), (2, .int p1), (3, .int 0), (4, .int 0)]) [2, 3, 4, 1, 0] rfl (w_M_apart_5 C hr p0 p1 FU 0 0 _ h)
theorem dX12_sumOf_0 : decode cX12_sumOf 0 = .ok (.iconst (-1), 1) := by decide +kernel
theorem dX12_sumOf_1 : decode cX12_sumOf 1 = .ok (.istore_n 2, 1) := by decide +kernel
theorem dX12_sumOf_2 : decode cX12_sumOf 2 = .ok (.iconst 0, 1) := by decide +kernel
theorem dX12_sumOf_3 : decode cX12_sumOf 3 = .ok (.istore_n 3, 1) := by decide +kernel
theorem dX12_sumOf_4 : decode cX12_sumOf 4 = .ok (.iload_n 3, 1) := by decide +kernel
theorem dX12_sumOf_5 : decode cX12_sumOf 5 = .ok (.iconst 4, 1) := by decide +kernel
theorem dX12_sumOf_6 : decode cX12_sumOf 6 = .ok (.if_icmp .ge 84, 3) := by decide +kernel
theorem dX12_sumOf_9 : decode cX12_sumOf 9 = .ok (.aload_n 0, 1) := by decide +kernel
theorem dX12_sumOf_10 : decode cX12_sumOf 10 = .ok (.iload_n 3, 1) := by decide +kernel
theorem dX12_sumOf_11 : decode cX12_sumOf 11 = .ok (.iload_n 1, 1) := by decide +kernel
theorem dX12_sumOf_12 : decode cX12_sumOf 12 = .ok (.invokevirtual 597, 3) := by decide +kernel
theorem dX12_sumOf_15 : decode cX12_sumOf 15 = .ok (.istore 4, 2) := by decide +kernel
theorem dX12_sumOf_17 : decode cX12_sumOf 17 = .ok (.iload 4, 2) := by decide +kernel
theorem dX12_sumOf_19 : decode cX12_sumOf 19 = .ok (.ifCond .ge 6, 3) := by decide +kernel
theorem dX12_sumOf_22 : decode cX12_sumOf 22 = .ok (.goto 62, 3) := by decide +kernel
theorem dX12_sumOf_25 : decode cX12_sumOf 25 = .ok (.aload_n 0, 1) := by decide +kernel
theorem dX12_sumOf_26 : decode cX12_sumOf 26 = .ok (.getfield 178, 3) := by decide +kernel
theorem dX12_sumOf_29 : decode cX12_sumOf 29 = .ok (.bipush 8, 2) := by decide +kernel
theorem dX12_sumOf_31 : decode cX12_sumOf 31 = .ok (.iload_n 3, 1) := by decide +kernel
theorem dX12_sumOf_32 : decode cX12_sumOf 32 = .ok (.imul, 1) := by decide +kernel
theorem dX12_sumOf_33 : decode cX12_sumOf 33 = .ok (.iload 4, 2) := by decide +kernel
theorem dX12_sumOf_35 : decode cX12_sumOf 35 = .ok (.iadd, 1) := by decide +kernel
theorem dX12_sumOf_36 : decode cX12_sumOf 36 = .ok (.iaload, 1) := by decide +kernel
theorem dX12_sumOf_37 : decode cX12_sumOf 37 = .ok (.istore 5, 2) := by decide +kernel
theorem dX12_sumOf_39 : decode cX12_sumOf 39 = .ok (.iload_n 2, 1) := by decide +kernel
theorem dX12_sumOf_40 : decode cX12_sumOf 40 = .ok (.ifCond .lt 41, 3) := by decide +kernel
theorem dX12_sumOf_43 : decode cX12_sumOf 43 = .ok (.aload_n 0, 1) := by decide +kernel
theorem dX12_sumOf_44 : decode cX12_sumOf 44 = .ok (.iload_n 1, 1) := by decide +kernel
theorem dX12_sumOf_45 : decode cX12_sumOf 45 = .ok (.iload 5, 2) := by decide +kernel
theorem dX12_sumOf_47 : decode cX12_sumOf 47 = .ok (.invokevirtual 616, 3) := by decide +kernel
theorem dX12_sumOf_50 : decode cX12_sumOf 50 = .ok (.aload_n 0, 1) := by decide +kernel
theorem dX12_sumOf_51 : decode cX12_sumOf 51 = .ok (.iload_n 1, 1) := by decide +kernel
theorem dX12_sumOf_52 : decode cX12_sumOf 52 = .ok (.iload_n 2, 1) := by decide +kernel
theorem dX12_sumOf_53 : decode cX12_sumOf 53 = .ok (.invokevirtual 616, 3) := by decide +kernel
theorem dX12_sumOf_56 : decode cX12_sumOf 56 = .ok (.if_icmp .lt 25, 3) := by decide +kernel
theorem dX12_sumOf_59 : decode cX12_sumOf 59 = .ok (.aload_n 0, 1) := by decide +kernel
theorem dX12_sumOf_60 : decode cX12_sumOf 60 = .ok (.iload_n 1, 1) := by decide +kernel
theorem dX12_sumOf_61 : decode cX12_sumOf 61 = .ok (.iload 5, 2) := by decide +kernel
theorem dX12_sumOf_63 : decode cX12_sumOf 63 = .ok (.invokevirtual 616, 3) := by decide +kernel
theorem dX12_sumOf_66 : decode cX12_sumOf 66 = .ok (.aload_n 0, 1) := by decide +kernel
theorem dX12_sumOf_67 : decode cX12_sumOf 67 = .ok (.iload_n 1, 1) := by decide +kernel
theorem dX12_sumOf_68 : decode cX12_sumOf 68 = .ok (.iload_n 2, 1) := by decide +kernel
theorem dX12_sumOf_69 : decode cX12_sumOf 69 = .ok (.invokevirtual 616, 3) := by decide +kernel
theorem dX12_sumOf_72 : decode cX12_sumOf 72 = .ok (.if_icmp .ne 12, 3) := by decide +kernel
theorem dX12_sumOf_75 : decode cX12_sumOf 75 = .ok (.iload 5, 2) := by decide +kernel
theorem dX12_sumOf_77 : decode cX12_sumOf 77 = .ok (.iload_n 2, 1) := by decide +kernel
theorem dX12_sumOf_78 : decode cX12_sumOf 78 = .ok (.if_icmp .ge 6, 3) := by decide +kernel
theorem dX12_sumOf_81 : decode cX12_sumOf 81 = .ok (.iload 5, 2) := by decide +kernel
theorem dX12_sumOf_83 : decode cX12_sumOf 83 = .ok (.istore_n 2, 1) := by decide +kernel
theorem dX12_sumOf_84 : decode cX12_sumOf 84 = .ok (.iinc 3 1, 3) := by decide +kernel
theorem dX12_sumOf_87 : decode cX12_sumOf 87 = .ok (.goto (-83), 3) := by decide +kernel
theorem dX12_sumOf_90 : decode cX12_sumOf 90 = .ok (.iload_n 2, 1) := by decide +kernel
theorem dX12_sumOf_91 : decode cX12_sumOf 91 = .ok (.ireturn, 1) := by decide +kernel
def B_M_sumOf_81 (k4 : Int32 → Int32 → CS → Option (Int32 × CS)) (x1 : Int32) (x3 : Int32) (x5 : Int32) (σ : CS) : Option (Int32 × CS) := k4 x5 (x3 + 1) σ
set_option maxHeartbeats 4000000 in
set_option maxRecDepth 100000 in
theorem w_M_sumOf_81 (C : Cx g p s m args meth c A 6 cX12_sumOf yX12_sumOf.cls) (hr : meth.sig.returnType = (some .int))  {res : Int32 × CS}  (x1 : Int32) (x3 : Int32) (x5 : Int32) {k4 : Int32 → Int32 → CS → Option (Int32 × CS)} (hk4 : ∀ (x2 : Int32) (x3 : Int32) (σ : CS), k4 x2 x3 σ = some res → NMI g p l e s m args below meth c A 2 48 6 am Rr res σ [(0, .ref (am 112)), (1, .int x1), (2, .int x2), (3, .int x3)] 4 []) (σ : CS) (h : B_M_sumOf_81 k4 x1 x3 x5 σ = some res) : NMI g p l e s m args below meth c A 2 48 6 am Rr res σ [(0, .ref (am 112)), (1, .int x1), (3, .int x3), (5, .int x5)] 81 [] := by
  unfold B_M_sumOf_81 at h
  refine nw_iload C dX12_sumOf_81 3 rfl ?_
  refine nw_istore_n (lv' := [(2, .int x5), (0, .ref (am 112)), (1, .int x1), (3, .int x3), (5, .int x5)]) C dX12_sumOf_83 rfl (by decide) rfl ?_
  refine nw_iinc (lv' := [(3, .int (x3 + 1)), (2, .int x5), (0, .ref (am 112)), (1, .int x1), (5, .int x5)]) C (x3 + 1) dX12_sumOf_84 3 rfl rfl (by decide) rfl ?_
  refine nw_goto (tgt := 4) C dX12_sumOf_87 (by decide) ?_
  exact nw_lv (lv' := [(0, .ref (am 112)), (1, .int x1), (2, .int x5), (3, .int (x3 + 1))]) [2, 3, 1, 0] rfl (hk4 x5 (x3 + 1) _ h)
def L_M_sumOf_4  (x1 : Int32) : Nat → Int32 → Int32 → CS → Option (Int32 × CS)
  | 0, _, _, _ => none
  | n + 1, x2, x3, σ => if 4 ≤ x3 then some (x2, σ) else bnd (f_M_placeIn x3 x1 σ) (fun r12 σ12 => if 0 ≤ r12 then gix ((8 * x3) + r12) 32 (if x2 < 0 then B_M_sumOf_81 (L_M_sumOf_4 x1 n) x1 x3 (rd σ12 81 ((8 * x3) + r12)) σ12 else bnd (f_M_apart x1 (rd σ12 81 ((8 * x3) + r12)) σ12) (fun r47 σ47 => bnd (f_M_apart x1 x2 σ47) (fun r53 σ53 => if r47 < r53 then B_M_sumOf_81 (L_M_sumOf_4 x1 n) x1 x3 (rd σ12 81 ((8 * x3) + r12)) σ53 else bnd (f_M_apart x1 (rd σ12 81 ((8 * x3) + r12)) σ53) (fun r63 σ63 => bnd (f_M_apart x1 x2 σ63) (fun r69 σ69 => if r63 = r69 then if x2 ≤ (rd σ12 81 ((8 * x3) + r12)) then (L_M_sumOf_4 x1 n) x2 (x3 + 1) σ69 else B_M_sumOf_81 (L_M_sumOf_4 x1 n) x1 x3 (rd σ12 81 ((8 * x3) + r12)) σ69 else (L_M_sumOf_4 x1 n) x2 (x3 + 1) σ69))))) else (L_M_sumOf_4 x1 n) x2 (x3 + 1) σ12)
set_option maxHeartbeats 4000000 in
set_option maxRecDepth 100000 in
theorem w_M_sumOf_4 (C : Cx g p s m args meth c A 6 cX12_sumOf yX12_sumOf.cls) (hr : meth.sig.returnType = (some .int))  {res : Int32 × CS}  (x1 : Int32)  : ∀ (n : Nat) (x2 : Int32) (x3 : Int32) (σ : CS), L_M_sumOf_4 x1 n x2 x3 σ = some res → NMI g p l e s m args below meth c A 2 48 6 am Rr res σ [(0, .ref (am 112)), (1, .int x1), (2, .int x2), (3, .int x3)] 4 [] := by
  intro n
  induction n with
  | zero =>
    intro x2 x3 σ h
    exact absurd (show (none : Option (Int32 × CS)) = some res from h) (by intro h9; cases h9)
  | succ n ih =>
    intro x2 x3 σ h
    rw [L_M_sumOf_4] at h
    refine nw_iload_n C dX12_sumOf_4 rfl 3 rfl ?_
    refine nw_iconst (v := 4) C dX12_sumOf_5 (by decide) ?_
    refine nw_icmp_ge (tgt := 90) C dX12_sumOf_6 (by decide) h (fun _ h => ?_) (fun _ h => ?_)
    · refine nw_iload_n C dX12_sumOf_90 rfl 2 rfl ?_
      exact nm_iret C hr dX12_sumOf_91 h
    · refine nw_aload_n C dX12_sumOf_9 rfl 0 rfl ?_
      refine nw_iload_n C dX12_sumOf_10 rfl 3 rfl ?_
      refine nw_iload_n C dX12_sumOf_11 rfl 1 rfl ?_
      refine nm_callVI (q0 := 0) (As := [.int x3, .int x1]) (rest := []) C h (fun _ _ e => c_M_placeIn e) tw_2319 kv_X12_placeIn ml_O rfl ⟨Nat.le_of_ble_eq_true rfl, Nat.le_of_ble_eq_true rfl⟩ rfl dX12_sumOf_12 rfl (Nat.le_of_ble_eq_true rfl) (fun r12 σ12 h => ?_)
      refine nw_istore (lv' := [(4, .int r12), (0, .ref (am 112)), (1, .int x1), (2, .int x2), (3, .int x3)]) C dX12_sumOf_15 (by decide) rfl ?_
      refine nw_iload C dX12_sumOf_17 0 rfl ?_
      refine nw_if_ge (tgt := 25) C dX12_sumOf_19 (by decide) h (fun _ h => ?_) (fun _ h => ?_)
      · refine nw_aload_n C dX12_sumOf_25 rfl 1 rfl ?_
        refine nw_get (v := .ref (am 81)) C in_X12 0 ml_O rfl 81 (by decide) tw_1654 rfl mf_81 dX12_sumOf_26 ?_
        refine nw_bipush (v := 8) C dX12_sumOf_29 (by decide) ?_
        refine nw_iload_n C dX12_sumOf_31 rfl 4 rfl ?_
        refine nw_imul C dX12_sumOf_32 ?_
        refine nw_iload C dX12_sumOf_33 0 rfl ?_
        refine nw_iadd C dX12_sumOf_35 ?_
        refine nw_iald C 55 ml_81 dX12_sumOf_36 h (fun h => ?_)
        refine nw_istore (lv' := [(5, .int (rd σ12 81 ((8 * x3) + r12))), (4, .int r12), (0, .ref (am 112)), (1, .int x1), (2, .int x2), (3, .int x3)]) C dX12_sumOf_37 (by decide) rfl ?_
        refine nw_iload_n C dX12_sumOf_39 rfl 4 rfl ?_
        refine nw_if_lt (tgt := 81) C dX12_sumOf_40 (by decide) h (fun _ h => ?_) (fun _ h => ?_)
        · exact nw_lv (lv' := [(0, .ref (am 112)), (1, .int x1), (3, .int x3), (5, .int (rd σ12 81 ((8 * x3) + r12)))]) [2, 3, 5, 0] rfl (w_M_sumOf_81 C hr x1 x3 (rd σ12 81 ((8 * x3) + r12)) ih _ h)
        · refine nw_aload_n C dX12_sumOf_43 rfl 2 rfl ?_
          refine nw_iload_n C dX12_sumOf_44 rfl 3 rfl ?_
          refine nw_iload C dX12_sumOf_45 0 rfl ?_
          refine nm_callVI (q0 := 0) (As := [.int x1, .int (rd σ12 81 ((8 * x3) + r12))]) (rest := []) C h (fun _ _ e => c_M_apart e) tw_2335 kv_X12_apart ml_O rfl ⟨Nat.le_of_ble_eq_true rfl, Nat.le_of_ble_eq_true rfl⟩ rfl dX12_sumOf_47 rfl (Nat.le_of_ble_eq_true rfl) (fun r47 σ47 h => ?_)
          refine nw_aload_n C dX12_sumOf_50 rfl 2 rfl ?_
          refine nw_iload_n C dX12_sumOf_51 rfl 3 rfl ?_
          refine nw_iload_n C dX12_sumOf_52 rfl 4 rfl ?_
          refine nm_callVI (q0 := 0) (As := [.int x1, .int x2]) (rest := [.int r47]) C h (fun _ _ e => c_M_apart e) tw_2335 kv_X12_apart ml_O rfl ⟨Nat.le_of_ble_eq_true rfl, Nat.le_of_ble_eq_true rfl⟩ rfl dX12_sumOf_53 rfl (Nat.le_of_ble_eq_true rfl) (fun r53 σ53 h => ?_)
          refine nw_icmp_lt (tgt := 81) C dX12_sumOf_56 (by decide) h (fun _ h => ?_) (fun _ h => ?_)
          · exact nw_lv (lv' := [(0, .ref (am 112)), (1, .int x1), (3, .int x3), (5, .int (rd σ12 81 ((8 * x3) + r12)))]) [2, 3, 5, 0] rfl (w_M_sumOf_81 C hr x1 x3 (rd σ12 81 ((8 * x3) + r12)) ih _ h)
          · refine nw_aload_n C dX12_sumOf_59 rfl 2 rfl ?_
            refine nw_iload_n C dX12_sumOf_60 rfl 3 rfl ?_
            refine nw_iload C dX12_sumOf_61 0 rfl ?_
            refine nm_callVI (q0 := 0) (As := [.int x1, .int (rd σ12 81 ((8 * x3) + r12))]) (rest := []) C h (fun _ _ e => c_M_apart e) tw_2335 kv_X12_apart ml_O rfl ⟨Nat.le_of_ble_eq_true rfl, Nat.le_of_ble_eq_true rfl⟩ rfl dX12_sumOf_63 rfl (Nat.le_of_ble_eq_true rfl) (fun r63 σ63 h => ?_)
            refine nw_aload_n C dX12_sumOf_66 rfl 2 rfl ?_
            refine nw_iload_n C dX12_sumOf_67 rfl 3 rfl ?_
            refine nw_iload_n C dX12_sumOf_68 rfl 4 rfl ?_
            refine nm_callVI (q0 := 0) (As := [.int x1, .int x2]) (rest := [.int r63]) C h (fun _ _ e => c_M_apart e) tw_2335 kv_X12_apart ml_O rfl ⟨Nat.le_of_ble_eq_true rfl, Nat.le_of_ble_eq_true rfl⟩ rfl dX12_sumOf_69 rfl (Nat.le_of_ble_eq_true rfl) (fun r69 σ69 h => ?_)
            refine nw_icmp_ne (tgt := 84) C dX12_sumOf_72 (by decide) h (fun _ h => ?_) (fun _ h => ?_)
            · refine nw_iload C dX12_sumOf_75 0 rfl ?_
              refine nw_iload_n C dX12_sumOf_77 rfl 4 rfl ?_
              refine nw_icmp_ge (tgt := 84) C dX12_sumOf_78 (by decide) h (fun _ h => ?_) (fun _ h => ?_)
              · refine nw_iinc (lv' := [(3, .int (x3 + 1)), (5, .int (rd σ12 81 ((8 * x3) + r12))), (4, .int r12), (0, .ref (am 112)), (1, .int x1), (2, .int x2)]) C (x3 + 1) dX12_sumOf_84 5 rfl rfl (by decide) rfl ?_
                refine nw_goto (tgt := 4) C dX12_sumOf_87 (by decide) ?_
                exact nw_lv (lv' := [(0, .ref (am 112)), (1, .int x1), (2, .int x2), (3, .int (x3 + 1))]) [3, 4, 5, 0] rfl (ih x2 (x3 + 1) _ h)
              · exact nw_lv (lv' := [(0, .ref (am 112)), (1, .int x1), (3, .int x3), (5, .int (rd σ12 81 ((8 * x3) + r12)))]) [2, 3, 5, 0] rfl (w_M_sumOf_81 C hr x1 x3 (rd σ12 81 ((8 * x3) + r12)) ih _ h)
            · refine nw_iinc (lv' := [(3, .int (x3 + 1)), (5, .int (rd σ12 81 ((8 * x3) + r12))), (4, .int r12), (0, .ref (am 112)), (1, .int x1), (2, .int x2)]) C (x3 + 1) dX12_sumOf_84 5 rfl rfl (by decide) rfl ?_
              refine nw_goto (tgt := 4) C dX12_sumOf_87 (by decide) ?_
              exact nw_lv (lv' := [(0, .ref (am 112)), (1, .int x1), (2, .int x2), (3, .int (x3 + 1))]) [3, 4, 5, 0] rfl (ih x2 (x3 + 1) _ h)
      · refine nw_goto (tgt := 84) C dX12_sumOf_22 (by decide) ?_
        refine nw_iinc (lv' := [(3, .int (x3 + 1)), (4, .int r12), (0, .ref (am 112)), (1, .int x1), (2, .int x2)]) C (x3 + 1) dX12_sumOf_84 4 rfl rfl (by decide) rfl ?_
        refine nw_goto (tgt := 4) C dX12_sumOf_87 (by decide) ?_
        exact nw_lv (lv' := [(0, .ref (am 112)), (1, .int x1), (2, .int x2), (3, .int (x3 + 1))]) [2, 3, 4, 0] rfl (ih x2 (x3 + 1) _ h)
def f_M_sumOf (p0 : Int32) (σ : CS) : Option (Int32 × CS) := L_M_sumOf_4 p0 FU (-1) 0 σ
set_option maxHeartbeats 4000000 in
set_option maxRecDepth 100000 in
theorem c_M_sumOf {l : Launch} {g : EG} {am : Nat → Nat} {Rr : va_W} {σ σ' : CS} {r : Int32} {p0 : Int32}  (h : f_M_sumOf p0 σ = some (r, σ')) : CmI l g yX12_sumOf (.code yX12_sumOf cX12_sumOf 6 (some .int)) 2 48 am Rr σ [.ref (am 112), .int p0] r σ' := by
  refine Ct.of rfl (by decide) (Nat.le_of_ble_eq_true rfl) ?_
  intro p e s m args below meth c A C hr
  show NMI g p l e s m args below meth c A 2 48 6 am Rr (r, σ') σ [(0, .ref (am 112)), (1, .int p0)] 0 []
  unfold f_M_sumOf at h
  refine nw_iconst (v := (-1)) C dX12_sumOf_0 (by decide) ?_
  refine nw_istore_n (lv' := [(2, .int (-1)), (0, .ref (am 112)), (1, .int p0)]) C dX12_sumOf_1 rfl (by decide) rfl ?_
  refine nw_iconst (v := 0) C dX12_sumOf_2 (by decide) ?_
  refine nw_istore_n (lv' := [(3, .int 0), (2, .int (-1)), (0, .ref (am 112)), (1, .int p0)]) C dX12_sumOf_3 rfl (by decide) rfl ?_
  exact nw_lv (lv' := [(0, .ref (am 112)), (1, .int p0), (2, .int (-1)), (3, .int 0)]) [2, 3, 1, 0] rfl (w_M_sumOf_4 C hr p0 FU (-1) 0 _ h)
theorem dX12_joined_0 : decode cX12_joined 0 = .ok (.aload_n 0, 1) := by decide +kernel
theorem dX12_joined_1 : decode cX12_joined 1 = .ok (.iconst 0, 1) := by decide +kernel
theorem dX12_joined_2 : decode cX12_joined 2 = .ok (.putfield 253, 3) := by decide +kernel
theorem dX12_joined_5 : decode cX12_joined 5 = .ok (.aload_n 0, 1) := by decide +kernel
theorem dX12_joined_6 : decode cX12_joined 6 = .ok (.iload_n 2, 1) := by decide +kernel
theorem dX12_joined_7 : decode cX12_joined 7 = .ok (.iconst 0, 1) := by decide +kernel
theorem dX12_joined_8 : decode cX12_joined 8 = .ok (.iconst 1, 1) := by decide +kernel
theorem dX12_joined_9 : decode cX12_joined 9 = .ok (.invokestatic 257, 3) := by decide +kernel
theorem dX12_joined_12 : decode cX12_joined 12 = .ok (.ifCond .ne 7, 3) := by decide +kernel
theorem dX12_joined_15 : decode cX12_joined 15 = .ok (.iconst 1, 1) := by decide +kernel
theorem dX12_joined_16 : decode cX12_joined 16 = .ok (.goto 4, 3) := by decide +kernel
theorem dX12_joined_19 : decode cX12_joined 19 = .ok (.iconst 0, 1) := by decide +kernel
theorem dX12_joined_20 : decode cX12_joined 20 = .ok (.iconst 1, 1) := by decide +kernel
theorem dX12_joined_21 : decode cX12_joined 21 = .ok (.invokevirtual 265, 3) := by decide +kernel
theorem dX12_joined_24 : decode cX12_joined 24 = .ok (.ifCond .eq 5, 3) := by decide +kernel
theorem dX12_joined_27 : decode cX12_joined 27 = .ok (.iconst 0, 1) := by decide +kernel
theorem dX12_joined_28 : decode cX12_joined 28 = .ok (.ireturn, 1) := by decide +kernel
theorem dX12_joined_29 : decode cX12_joined 29 = .ok (.aload_n 0, 1) := by decide +kernel
theorem dX12_joined_30 : decode cX12_joined 30 = .ok (.invokevirtual 613, 3) := by decide +kernel
theorem dX12_joined_33 : decode cX12_joined 33 = .ok (.ifCond .eq 17, 3) := by decide +kernel
theorem dX12_joined_36 : decode cX12_joined 36 = .ok (.iload_n 1, 1) := by decide +kernel
theorem dX12_joined_37 : decode cX12_joined 37 = .ok (.iconst 0, 1) := by decide +kernel
theorem dX12_joined_38 : decode cX12_joined 38 = .ok (.aload_n 0, 1) := by decide +kernel
theorem dX12_joined_39 : decode cX12_joined 39 = .ok (.getfield 600, 3) := by decide +kernel
theorem dX12_joined_42 : decode cX12_joined 42 = .ok (.iconst 1, 1) := by decide +kernel
theorem dX12_joined_43 : decode cX12_joined 43 = .ok (.isub, 1) := by decide +kernel
theorem dX12_joined_44 : decode cX12_joined 44 = .ok (.invokestatic 257, 3) := by decide +kernel
theorem dX12_joined_47 : decode cX12_joined 47 = .ok (.ifCond .ne 5, 3) := by decide +kernel
theorem dX12_joined_50 : decode cX12_joined 50 = .ok (.iconst (-1), 1) := by decide +kernel
theorem dX12_joined_51 : decode cX12_joined 51 = .ok (.ireturn, 1) := by decide +kernel
theorem dX12_joined_52 : decode cX12_joined 52 = .ok (.aload_n 0, 1) := by decide +kernel
theorem dX12_joined_53 : decode cX12_joined 53 = .ok (.getfield 181, 3) := by decide +kernel
theorem dX12_joined_56 : decode cX12_joined 56 = .ok (.aload_n 0, 1) := by decide +kernel
theorem dX12_joined_57 : decode cX12_joined 57 = .ok (.getfield 190, 3) := by decide +kernel
theorem dX12_joined_60 : decode cX12_joined 60 = .ok (.iload_n 1, 1) := by decide +kernel
theorem dX12_joined_61 : decode cX12_joined 61 = .ok (.iaload, 1) := by decide +kernel
theorem dX12_joined_62 : decode cX12_joined 62 = .ok (.iaload, 1) := by decide +kernel
theorem dX12_joined_63 : decode cX12_joined 63 = .ok (.istore_n 3, 1) := by decide +kernel
theorem dX12_joined_64 : decode cX12_joined 64 = .ok (.iload_n 2, 1) := by decide +kernel
theorem dX12_joined_65 : decode cX12_joined 65 = .ok (.ifCond .ne 7, 3) := by decide +kernel
theorem dX12_joined_68 : decode cX12_joined 68 = .ok (.iload_n 3, 1) := by decide +kernel
theorem dX12_joined_69 : decode cX12_joined 69 = .ok (.goto 8, 3) := by decide +kernel
theorem dX12_joined_72 : decode cX12_joined 72 = .ok (.aload_n 0, 1) := by decide +kernel
theorem dX12_joined_73 : decode cX12_joined 73 = .ok (.iload_n 3, 1) := by decide +kernel
theorem dX12_joined_74 : decode cX12_joined 74 = .ok (.invokevirtual 619, 3) := by decide +kernel
theorem dX12_joined_77 : decode cX12_joined 77 = .ok (.ireturn, 1) := by decide +kernel
def B_M_joined_20   (x1 : Int32) (x2 : Int32) (z1 : Int32) (σ : CS) : Option (Int32 × CS) := bnd (f_M_bad z1 1 σ) (fun r21 σ21 => if r21 = 0 then bnd (f_M_lists σ21) (fun r30 σ30 => if r30 = 0 then some ((-1), σ30) else bnd (f_M_in x1 0 ((σ30.1 86) - 1) σ30) (fun r44 σ44 => if r44 = 0 then some ((-1), σ44) else gix x1 8 (gix (rd σ44 85 x1) 8 (if x2 = 0 then some ((rd σ44 82 (rd σ44 85 x1)), σ44) else bnd (f_M_sumOf (rd σ44 82 (rd σ44 85 x1)) σ44) (fun r74 σ74 => some (r74, σ74)))))) else some (0, σ21))
set_option maxHeartbeats 4000000 in
set_option maxRecDepth 100000 in
theorem w_M_joined_20 (C : Cx g p s m args meth c A 4 cX12_joined yX12_joined.cls) (hr : meth.sig.returnType = (some .int))  {res : Int32 × CS}   (x1 : Int32) (x2 : Int32) (z1 : Int32)  (σ : CS) (h : B_M_joined_20 x1 x2 z1 σ = some res) : NMI g p l e s m args below meth c A 162 6451 4 am Rr res σ [(0, .ref (am 112)), (1, .int x1), (2, .int x2)] 20 [.int z1, .ref (am 112)] := by
  unfold B_M_joined_20 at h
  refine nw_iconst (v := 1) C dX12_joined_20 (by decide) ?_
  refine nm_callVI (q0 := 0) (As := [.int z1, .int 1]) (rest := []) C h (fun _ _ e => c_M_bad e) tw_1924 kv_X12_bad ml_O rfl ⟨Nat.le_of_ble_eq_true rfl, Nat.le_of_ble_eq_true rfl⟩ rfl dX12_joined_21 rfl (Nat.le_of_ble_eq_true rfl) (fun r21 σ21 h => ?_)
  refine nw_if_eq (tgt := 29) C dX12_joined_24 (by decide) h (fun _ h => ?_) (fun _ h => ?_)
  · refine nw_aload_n C dX12_joined_29 rfl 0 rfl ?_
    refine nm_callVI (q0 := 0) (As := []) (rest := []) C h (fun _ _ e => c_M_lists e) tw_2311 kv_X12_lists ml_O rfl ⟨Nat.le_of_ble_eq_true rfl, Nat.le_of_ble_eq_true rfl⟩ rfl dX12_joined_30 rfl (Nat.le_of_ble_eq_true rfl) (fun r30 σ30 h => ?_)
    refine nw_if_eq (tgt := 50) C dX12_joined_33 (by decide) h (fun _ h => ?_) (fun _ h => ?_)
    · refine nw_iconst (v := (-1)) C dX12_joined_50 (by decide) ?_
      exact nm_iret C hr dX12_joined_51 h
    · refine nw_iload_n C dX12_joined_36 rfl 1 rfl ?_
      refine nw_iconst (v := 0) C dX12_joined_37 (by decide) ?_
      refine nw_aload_n C dX12_joined_38 rfl 0 rfl ?_
      refine nw_get (v := .int (σ30.1 86)) C in_X12 0 ml_O rfl 86 (by decide) tw_1659 rfl mf_86 dX12_joined_39 ?_
      refine nw_iconst (v := 1) C dX12_joined_42 (by decide) ?_
      refine nw_isub C dX12_joined_43 ?_
      refine nm_callSI  (As := [.int x1, .int 0, .int ((σ30.1 86) - 1)]) (rest := []) C h (fun _ _ e => c_M_in e) tw_1918 ks_X12_in ⟨Nat.le_of_ble_eq_true rfl, Nat.le_of_ble_eq_true rfl⟩ rfl dX12_joined_44 rfl (Nat.le_of_ble_eq_true rfl) (fun r44 σ44 h => ?_)
      refine nw_if_ne (tgt := 52) C dX12_joined_47 (by decide) h (fun _ h => ?_) (fun _ h => ?_)
      · refine nw_iconst (v := (-1)) C dX12_joined_50 (by decide) ?_
        exact nm_iret C hr dX12_joined_51 h
      · refine nw_aload_n C dX12_joined_52 rfl 0 rfl ?_
        refine nw_get (v := .ref (am 82)) C in_X12 0 ml_O rfl 82 (by decide) tw_1655 rfl mf_82 dX12_joined_53 ?_
        refine nw_aload_n C dX12_joined_56 rfl 0 rfl ?_
        refine nw_get (v := .ref (am 85)) C in_X12 0 ml_O rfl 85 (by decide) tw_1658 rfl mf_85 dX12_joined_57 ?_
        refine nw_iload_n C dX12_joined_60 rfl 1 rfl ?_
        refine nw_iald C 59 ml_85 dX12_joined_61 h (fun h => ?_)
        refine nw_iald C 56 ml_82 dX12_joined_62 h (fun h => ?_)
        refine nw_istore_n (lv' := [(3, .int (rd σ44 82 (rd σ44 85 x1))), (0, .ref (am 112)), (1, .int x1), (2, .int x2)]) C dX12_joined_63 rfl (by decide) rfl ?_
        refine nw_iload_n C dX12_joined_64 rfl 3 rfl ?_
        refine nw_if_ne (tgt := 72) C dX12_joined_65 (by decide) h (fun _ h => ?_) (fun _ h => ?_)
        · refine nw_iload_n C dX12_joined_68 rfl 0 rfl ?_
          refine nw_goto (tgt := 77) C dX12_joined_69 (by decide) ?_
          exact nm_iret C hr dX12_joined_77 h
        · refine nw_aload_n C dX12_joined_72 rfl 1 rfl ?_
          refine nw_iload_n C dX12_joined_73 rfl 0 rfl ?_
          refine nm_callVI (q0 := 0) (As := [.int (rd σ44 82 (rd σ44 85 x1))]) (rest := []) C h (fun _ _ e => c_M_sumOf e) tw_2331 kv_X12_sumOf ml_O rfl ⟨Nat.le_of_ble_eq_true rfl, Nat.le_of_ble_eq_true rfl⟩ rfl dX12_joined_74 rfl (Nat.le_of_ble_eq_true rfl) (fun r74 σ74 h => ?_)
          exact nm_iret C hr dX12_joined_77 h
  · refine nw_iconst (v := 0) C dX12_joined_27 (by decide) ?_
    exact nm_iret C hr dX12_joined_28 h
def f_M_joined (p0 : Int32) (p1 : Int32) (σ : CS) : Option (Int32 × CS) := bnd (f_M_in p1 0 1 (sF σ 0 0)) (fun r9 σ9 => if r9 = 0 then B_M_joined_20 p0 p1 1 σ9 else B_M_joined_20 p0 p1 0 σ9)
set_option maxHeartbeats 4000000 in
set_option maxRecDepth 100000 in
theorem c_M_joined {l : Launch} {g : EG} {am : Nat → Nat} {Rr : va_W} {σ σ' : CS} {r : Int32} {p0 : Int32} {p1 : Int32}  (h : f_M_joined p0 p1 σ = some (r, σ')) : CmI l g yX12_joined (.code yX12_joined cX12_joined 4 (some .int)) 162 6451 am Rr σ [.ref (am 112), .int p0, .int p1] r σ' := by
  refine Ct.of rfl (by decide) (Nat.le_of_ble_eq_true rfl) ?_
  intro p e s m args below meth c A C hr
  show NMI g p l e s m args below meth c A 162 6451 4 am Rr (r, σ') σ [(0, .ref (am 112)), (1, .int p0), (2, .int p1)] 0 []
  unfold f_M_joined at h
  refine nw_aload_n C dX12_joined_0 rfl 0 rfl ?_
  refine nw_iconst (v := 0) C dX12_joined_1 (by decide) ?_
  refine nw_put (ty := .int) C in_X12 0 ml_O rfl 0 (by decide) tyX12 tyX12_ok nmX12 tw_1573 rfl rfl (by decide +kernel) rfl rfl (Nat.le_of_ble_eq_true rfl) dX12_joined_2 ms_0 ?_
  refine nw_aload_n C dX12_joined_5 rfl 0 rfl ?_
  refine nw_iload_n C dX12_joined_6 rfl 2 rfl ?_
  refine nw_iconst (v := 0) C dX12_joined_7 (by decide) ?_
  refine nw_iconst (v := 1) C dX12_joined_8 (by decide) ?_
  refine nm_callSI  (As := [.int p1, .int 0, .int 1]) (rest := [.ref (am 112)]) C h (fun _ _ e => c_M_in e) tw_1918 ks_X12_in ⟨Nat.le_of_ble_eq_true rfl, Nat.le_of_ble_eq_true rfl⟩ rfl dX12_joined_9 rfl (Nat.le_of_ble_eq_true rfl) (fun r9 σ9 h => ?_)
  refine nw_if_ne (tgt := 19) C dX12_joined_12 (by decide) h (fun _ h => ?_) (fun _ h => ?_)
  · refine nw_iconst (v := 1) C dX12_joined_15 (by decide) ?_
    refine nw_goto (tgt := 20) C dX12_joined_16 (by decide) ?_
    exact nw_lv (lv' := [(0, .ref (am 112)), (1, .int p0), (2, .int p1)]) [0, 1, 2] rfl (w_M_joined_20 C hr p0 p1 1 _ h)
  · refine nw_iconst (v := 0) C dX12_joined_19 (by decide) ?_
    exact nw_lv (lv' := [(0, .ref (am 112)), (1, .int p0), (2, .int p1)]) [0, 1, 2] rfl (w_M_joined_20 C hr p0 p1 0 _ h)
theorem dX12_lodge_0 : decode cX12_lodge 0 = .ok (.aload_n 0, 1) := by decide +kernel
theorem dX12_lodge_1 : decode cX12_lodge 1 = .ok (.iconst 0, 1) := by decide +kernel
theorem dX12_lodge_2 : decode cX12_lodge 2 = .ok (.putfield 253, 3) := by decide +kernel
theorem dX12_lodge_5 : decode cX12_lodge 5 = .ok (.aload_n 0, 1) := by decide +kernel
theorem dX12_lodge_6 : decode cX12_lodge 6 = .ok (.iload_n 1, 1) := by decide +kernel
theorem dX12_lodge_7 : decode cX12_lodge 7 = .ok (.iconst 0, 1) := by decide +kernel
theorem dX12_lodge_8 : decode cX12_lodge 8 = .ok (.aload_n 0, 1) := by decide +kernel
theorem dX12_lodge_9 : decode cX12_lodge 9 = .ok (.getfield 519, 3) := by decide +kernel
theorem dX12_lodge_12 : decode cX12_lodge 12 = .ok (.iconst 1, 1) := by decide +kernel
theorem dX12_lodge_13 : decode cX12_lodge 13 = .ok (.isub, 1) := by decide +kernel
theorem dX12_lodge_14 : decode cX12_lodge 14 = .ok (.invokestatic 257, 3) := by decide +kernel
theorem dX12_lodge_17 : decode cX12_lodge 17 = .ok (.ifCond .ne 7, 3) := by decide +kernel
theorem dX12_lodge_20 : decode cX12_lodge 20 = .ok (.iconst 1, 1) := by decide +kernel
theorem dX12_lodge_21 : decode cX12_lodge 21 = .ok (.goto 4, 3) := by decide +kernel
theorem dX12_lodge_24 : decode cX12_lodge 24 = .ok (.iconst 0, 1) := by decide +kernel
theorem dX12_lodge_25 : decode cX12_lodge 25 = .ok (.iconst 1, 1) := by decide +kernel
theorem dX12_lodge_26 : decode cX12_lodge 26 = .ok (.invokevirtual 265, 3) := by decide +kernel
theorem dX12_lodge_29 : decode cX12_lodge 29 = .ok (.ifCond .ne 36, 3) := by decide +kernel
theorem dX12_lodge_32 : decode cX12_lodge 32 = .ok (.aload_n 0, 1) := by decide +kernel
theorem dX12_lodge_33 : decode cX12_lodge 33 = .ok (.iload_n 2, 1) := by decide +kernel
theorem dX12_lodge_34 : decode cX12_lodge 34 = .ok (.iload_n 3, 1) := by decide +kernel
theorem dX12_lodge_35 : decode cX12_lodge 35 = .ok (.invokestatic 261, 3) := by decide +kernel
theorem dX12_lodge_38 : decode cX12_lodge 38 = .ok (.ifCond .eq 15, 3) := by decide +kernel
theorem dX12_lodge_41 : decode cX12_lodge 41 = .ok (.iload 4, 2) := by decide +kernel
theorem dX12_lodge_43 : decode cX12_lodge 43 = .ok (.iconst 0, 1) := by decide +kernel
theorem dX12_lodge_44 : decode cX12_lodge 44 = .ok (.sipush 4000, 3) := by decide +kernel
theorem dX12_lodge_47 : decode cX12_lodge 47 = .ok (.invokestatic 257, 3) := by decide +kernel
theorem dX12_lodge_50 : decode cX12_lodge 50 = .ok (.ifCond .ne 7, 3) := by decide +kernel
theorem dX12_lodge_53 : decode cX12_lodge 53 = .ok (.iconst 1, 1) := by decide +kernel
theorem dX12_lodge_54 : decode cX12_lodge 54 = .ok (.goto 4, 3) := by decide +kernel
theorem dX12_lodge_57 : decode cX12_lodge 57 = .ok (.iconst 0, 1) := by decide +kernel
theorem dX12_lodge_58 : decode cX12_lodge 58 = .ok (.iconst 2, 1) := by decide +kernel
theorem dX12_lodge_59 : decode cX12_lodge 59 = .ok (.invokevirtual 265, 3) := by decide +kernel
theorem dX12_lodge_62 : decode cX12_lodge 62 = .ok (.ifCond .eq 5, 3) := by decide +kernel
theorem dX12_lodge_65 : decode cX12_lodge 65 = .ok (.iconst 0, 1) := by decide +kernel
theorem dX12_lodge_66 : decode cX12_lodge 66 = .ok (.ireturn, 1) := by decide +kernel
theorem dX12_lodge_67 : decode cX12_lodge 67 = .ok (.aload_n 0, 1) := by decide +kernel
theorem dX12_lodge_68 : decode cX12_lodge 68 = .ok (.getfield 193, 3) := by decide +kernel
theorem dX12_lodge_71 : decode cX12_lodge 71 = .ok (.iload_n 1, 1) := by decide +kernel
theorem dX12_lodge_72 : decode cX12_lodge 72 = .ok (.iconst 1, 1) := by decide +kernel
theorem dX12_lodge_73 : decode cX12_lodge 73 = .ok (.bastore, 1) := by decide +kernel
theorem dX12_lodge_74 : decode cX12_lodge 74 = .ok (.aload_n 0, 1) := by decide +kernel
theorem dX12_lodge_75 : decode cX12_lodge 75 = .ok (.getfield 196, 3) := by decide +kernel
theorem dX12_lodge_78 : decode cX12_lodge 78 = .ok (.iload_n 1, 1) := by decide +kernel
theorem dX12_lodge_79 : decode cX12_lodge 79 = .ok (.iload_n 2, 1) := by decide +kernel
theorem dX12_lodge_80 : decode cX12_lodge 80 = .ok (.iastore, 1) := by decide +kernel
theorem dX12_lodge_81 : decode cX12_lodge 81 = .ok (.aload_n 0, 1) := by decide +kernel
theorem dX12_lodge_82 : decode cX12_lodge 82 = .ok (.getfield 199, 3) := by decide +kernel
theorem dX12_lodge_85 : decode cX12_lodge 85 = .ok (.iload_n 1, 1) := by decide +kernel
theorem dX12_lodge_86 : decode cX12_lodge 86 = .ok (.iload_n 3, 1) := by decide +kernel
theorem dX12_lodge_87 : decode cX12_lodge 87 = .ok (.iastore, 1) := by decide +kernel
theorem dX12_lodge_88 : decode cX12_lodge 88 = .ok (.aload_n 0, 1) := by decide +kernel
theorem dX12_lodge_89 : decode cX12_lodge 89 = .ok (.getfield 202, 3) := by decide +kernel
theorem dX12_lodge_92 : decode cX12_lodge 92 = .ok (.iload_n 1, 1) := by decide +kernel
theorem dX12_lodge_93 : decode cX12_lodge 93 = .ok (.iload 4, 2) := by decide +kernel
theorem dX12_lodge_95 : decode cX12_lodge 95 = .ok (.iastore, 1) := by decide +kernel
theorem dX12_lodge_96 : decode cX12_lodge 96 = .ok (.iconst 1, 1) := by decide +kernel
theorem dX12_lodge_97 : decode cX12_lodge 97 = .ok (.ireturn, 1) := by decide +kernel
def B_M_lodge_58   (x1 : Int32) (x2 : Int32) (x3 : Int32) (x4 : Int32) (z1 : Int32) (σ : CS) : Option (Int32 × CS) := bnd (f_M_bad z1 2 σ) (fun r59 σ59 => if r59 = 0 then gix x1 6 (gix x1 6 (gix x1 6 (gix x1 6 (some (1, (wr (wr (wr (wr σ59 88 x1 (vp_nar .boolean 1)) 89 x1 x2) 90 x1 x3) 91 x1 x4)))))) else some (0, σ59))
set_option maxHeartbeats 4000000 in
set_option maxRecDepth 100000 in
theorem w_M_lodge_58 (C : Cx g p s m args meth c A 5 cX12_lodge yX12_lodge.cls) (hr : meth.sig.returnType = (some .int))  {res : Int32 × CS}   (x1 : Int32) (x2 : Int32) (x3 : Int32) (x4 : Int32) (z1 : Int32)  (σ : CS) (h : B_M_lodge_58 x1 x2 x3 x4 z1 σ = some res) : NMI g p l e s m args below meth c A 2 43 5 am Rr res σ [(0, .ref (am 112)), (1, .int x1), (2, .int x2), (3, .int x3), (4, .int x4)] 58 [.int z1, .ref (am 112)] := by
  unfold B_M_lodge_58 at h
  refine nw_iconst (v := 2) C dX12_lodge_58 (by decide) ?_
  refine nm_callVI (q0 := 0) (As := [.int z1, .int 2]) (rest := []) C h (fun _ _ e => c_M_bad e) tw_1924 kv_X12_bad ml_O rfl ⟨Nat.le_of_ble_eq_true rfl, Nat.le_of_ble_eq_true rfl⟩ rfl dX12_lodge_59 rfl (Nat.le_of_ble_eq_true rfl) (fun r59 σ59 h => ?_)
  refine nw_if_eq (tgt := 67) C dX12_lodge_62 (by decide) h (fun _ h => ?_) (fun _ h => ?_)
  · refine nw_aload_n C dX12_lodge_67 rfl 0 rfl ?_
    refine nw_get (v := .ref (am 88)) C in_X12 0 ml_O rfl 88 (by decide) tw_1661 rfl mf_88 dX12_lodge_68 ?_
    refine nw_iload_n C dX12_lodge_71 rfl 1 rfl ?_
    refine nw_iconst (v := 1) C dX12_lodge_72 (by decide) ?_
    refine nw_zast C 60 ml_88 dX12_lodge_73 h ms_88 (fun h => ?_)
    refine nw_aload_n C dX12_lodge_74 rfl 0 rfl ?_
    refine nw_get (v := .ref (am 89)) C in_X12 0 ml_O rfl 89 (by decide) tw_1662 rfl mf_89 dX12_lodge_75 ?_
    refine nw_iload_n C dX12_lodge_78 rfl 1 rfl ?_
    refine nw_iload_n C dX12_lodge_79 rfl 2 rfl ?_
    refine nw_iast C 61 ml_89 dX12_lodge_80 h ms_89 (fun h => ?_)
    refine nw_aload_n C dX12_lodge_81 rfl 0 rfl ?_
    refine nw_get (v := .ref (am 90)) C in_X12 0 ml_O rfl 90 (by decide) tw_1663 rfl mf_90 dX12_lodge_82 ?_
    refine nw_iload_n C dX12_lodge_85 rfl 1 rfl ?_
    refine nw_iload_n C dX12_lodge_86 rfl 3 rfl ?_
    refine nw_iast C 62 ml_90 dX12_lodge_87 h ms_90 (fun h => ?_)
    refine nw_aload_n C dX12_lodge_88 rfl 0 rfl ?_
    refine nw_get (v := .ref (am 91)) C in_X12 0 ml_O rfl 91 (by decide) tw_1664 rfl mf_91 dX12_lodge_89 ?_
    refine nw_iload_n C dX12_lodge_92 rfl 1 rfl ?_
    refine nw_iload C dX12_lodge_93 4 rfl ?_
    refine nw_iast C 63 ml_91 dX12_lodge_95 h ms_91 (fun h => ?_)
    refine nw_iconst (v := 1) C dX12_lodge_96 (by decide) ?_
    exact nm_iret C hr dX12_lodge_97 h
  · refine nw_iconst (v := 0) C dX12_lodge_65 (by decide) ?_
    exact nm_iret C hr dX12_lodge_66 h
def B_M_lodge_25   (x1 : Int32) (x2 : Int32) (x3 : Int32) (x4 : Int32) (z1 : Int32) (σ : CS) : Option (Int32 × CS) := bnd (f_M_bad z1 1 σ) (fun r26 σ26 => if r26 = 0 then bnd (f_M_isPlace x2 x3 σ26) (fun r35 σ35 => if r35 = 0 then B_M_lodge_58 x1 x2 x3 x4 1 σ35 else bnd (f_M_in x4 0 4000 σ35) (fun r47 σ47 => if r47 = 0 then B_M_lodge_58 x1 x2 x3 x4 1 σ47 else B_M_lodge_58 x1 x2 x3 x4 0 σ47)) else some (0, σ26))
set_option maxHeartbeats 4000000 in
set_option maxRecDepth 100000 in
theorem w_M_lodge_25 (C : Cx g p s m args meth c A 5 cX12_lodge yX12_lodge.cls) (hr : meth.sig.returnType = (some .int))  {res : Int32 × CS}   (x1 : Int32) (x2 : Int32) (x3 : Int32) (x4 : Int32) (z1 : Int32)  (σ : CS) (h : B_M_lodge_25 x1 x2 x3 x4 z1 σ = some res) : NMI g p l e s m args below meth c A 2 43 5 am Rr res σ [(0, .ref (am 112)), (1, .int x1), (2, .int x2), (3, .int x3), (4, .int x4)] 25 [.int z1, .ref (am 112)] := by
  unfold B_M_lodge_25 at h
  refine nw_iconst (v := 1) C dX12_lodge_25 (by decide) ?_
  refine nm_callVI (q0 := 0) (As := [.int z1, .int 1]) (rest := []) C h (fun _ _ e => c_M_bad e) tw_1924 kv_X12_bad ml_O rfl ⟨Nat.le_of_ble_eq_true rfl, Nat.le_of_ble_eq_true rfl⟩ rfl dX12_lodge_26 rfl (Nat.le_of_ble_eq_true rfl) (fun r26 σ26 h => ?_)
  refine nw_if_ne (tgt := 65) C dX12_lodge_29 (by decide) h (fun _ h => ?_) (fun _ h => ?_)
  · refine nw_aload_n C dX12_lodge_32 rfl 0 rfl ?_
    refine nw_iload_n C dX12_lodge_33 rfl 2 rfl ?_
    refine nw_iload_n C dX12_lodge_34 rfl 3 rfl ?_
    refine nm_callSI  (As := [.int x2, .int x3]) (rest := [.ref (am 112)]) C h (fun _ _ e => c_M_isPlace e) tw_1921 ks_X12_isPlace ⟨Nat.le_of_ble_eq_true rfl, Nat.le_of_ble_eq_true rfl⟩ rfl dX12_lodge_35 rfl (Nat.le_of_ble_eq_true rfl) (fun r35 σ35 h => ?_)
    refine nw_if_eq (tgt := 53) C dX12_lodge_38 (by decide) h (fun _ h => ?_) (fun _ h => ?_)
    · refine nw_iconst (v := 1) C dX12_lodge_53 (by decide) ?_
      refine nw_goto (tgt := 58) C dX12_lodge_54 (by decide) ?_
      exact nw_lv (lv' := [(0, .ref (am 112)), (1, .int x1), (2, .int x2), (3, .int x3), (4, .int x4)]) [0, 1, 2, 3, 4] rfl (w_M_lodge_58 C hr x1 x2 x3 x4 1 _ h)
    · refine nw_iload C dX12_lodge_41 4 rfl ?_
      refine nw_iconst (v := 0) C dX12_lodge_43 (by decide) ?_
      refine nw_sipush (v := 4000) C dX12_lodge_44 (by decide) ?_
      refine nm_callSI  (As := [.int x4, .int 0, .int 4000]) (rest := [.ref (am 112)]) C h (fun _ _ e => c_M_in e) tw_1918 ks_X12_in ⟨Nat.le_of_ble_eq_true rfl, Nat.le_of_ble_eq_true rfl⟩ rfl dX12_lodge_47 rfl (Nat.le_of_ble_eq_true rfl) (fun r47 σ47 h => ?_)
      refine nw_if_ne (tgt := 57) C dX12_lodge_50 (by decide) h (fun _ h => ?_) (fun _ h => ?_)
      · refine nw_iconst (v := 1) C dX12_lodge_53 (by decide) ?_
        refine nw_goto (tgt := 58) C dX12_lodge_54 (by decide) ?_
        exact nw_lv (lv' := [(0, .ref (am 112)), (1, .int x1), (2, .int x2), (3, .int x3), (4, .int x4)]) [0, 1, 2, 3, 4] rfl (w_M_lodge_58 C hr x1 x2 x3 x4 1 _ h)
      · refine nw_iconst (v := 0) C dX12_lodge_57 (by decide) ?_
        exact nw_lv (lv' := [(0, .ref (am 112)), (1, .int x1), (2, .int x2), (3, .int x3), (4, .int x4)]) [0, 1, 2, 3, 4] rfl (w_M_lodge_58 C hr x1 x2 x3 x4 0 _ h)
  · refine nw_iconst (v := 0) C dX12_lodge_65 (by decide) ?_
    exact nm_iret C hr dX12_lodge_66 h
def f_M_lodge (p0 : Int32) (p1 : Int32) (p2 : Int32) (p3 : Int32) (σ : CS) : Option (Int32 × CS) := bnd (f_M_in p0 0 ((σ.1 44) - 1) (sF σ 0 0)) (fun r14 σ14 => if r14 = 0 then B_M_lodge_25 p0 p1 p2 p3 1 σ14 else B_M_lodge_25 p0 p1 p2 p3 0 σ14)
set_option maxHeartbeats 4000000 in
set_option maxRecDepth 100000 in
theorem c_M_lodge {l : Launch} {g : EG} {am : Nat → Nat} {Rr : va_W} {σ σ' : CS} {r : Int32} {p0 : Int32} {p1 : Int32} {p2 : Int32} {p3 : Int32}  (h : f_M_lodge p0 p1 p2 p3 σ = some (r, σ')) : CmI l g yX12_lodge (.code yX12_lodge cX12_lodge 5 (some .int)) 2 43 am Rr σ [.ref (am 112), .int p0, .int p1, .int p2, .int p3] r σ' := by
  refine Ct.of rfl (by decide) (Nat.le_of_ble_eq_true rfl) ?_
  intro p e s m args below meth c A C hr
  show NMI g p l e s m args below meth c A 2 43 5 am Rr (r, σ') σ [(0, .ref (am 112)), (1, .int p0), (2, .int p1), (3, .int p2), (4, .int p3)] 0 []
  unfold f_M_lodge at h
  refine nw_aload_n C dX12_lodge_0 rfl 0 rfl ?_
  refine nw_iconst (v := 0) C dX12_lodge_1 (by decide) ?_
  refine nw_put (ty := .int) C in_X12 0 ml_O rfl 0 (by decide) tyX12 tyX12_ok nmX12 tw_1573 rfl rfl (by decide +kernel) rfl rfl (Nat.le_of_ble_eq_true rfl) dX12_lodge_2 ms_0 ?_
  refine nw_aload_n C dX12_lodge_5 rfl 0 rfl ?_
  refine nw_iload_n C dX12_lodge_6 rfl 1 rfl ?_
  refine nw_iconst (v := 0) C dX12_lodge_7 (by decide) ?_
  refine nw_aload_n C dX12_lodge_8 rfl 0 rfl ?_
  refine nw_get (v := .int (σ.1 44)) C in_X12 0 ml_O rfl 44 (by decide) tw_1617 rfl rfl dX12_lodge_9 ?_
  refine nw_iconst (v := 1) C dX12_lodge_12 (by decide) ?_
  refine nw_isub C dX12_lodge_13 ?_
  refine nm_callSI  (As := [.int p0, .int 0, .int ((σ.1 44) - 1)]) (rest := [.ref (am 112)]) C h (fun _ _ e => c_M_in e) tw_1918 ks_X12_in ⟨Nat.le_of_ble_eq_true rfl, Nat.le_of_ble_eq_true rfl⟩ rfl dX12_lodge_14 rfl (Nat.le_of_ble_eq_true rfl) (fun r14 σ14 h => ?_)
  refine nw_if_ne (tgt := 24) C dX12_lodge_17 (by decide) h (fun _ h => ?_) (fun _ h => ?_)
  · refine nw_iconst (v := 1) C dX12_lodge_20 (by decide) ?_
    refine nw_goto (tgt := 25) C dX12_lodge_21 (by decide) ?_
    exact nw_lv (lv' := [(0, .ref (am 112)), (1, .int p0), (2, .int p1), (3, .int p2), (4, .int p3)]) [0, 1, 2, 3, 4] rfl (w_M_lodge_25 C hr p0 p1 p2 p3 1 _ h)
  · refine nw_iconst (v := 0) C dX12_lodge_24 (by decide) ?_
    exact nw_lv (lv' := [(0, .ref (am 112)), (1, .int p0), (2, .int p1), (3, .int p2), (4, .int p3)]) [0, 1, 2, 3, 4] rfl (w_M_lodge_25 C hr p0 p1 p2 p3 0 _ h)
theorem dX12_spot_0 : decode cX12_spot 0 = .ok (.aload_n 0, 1) := by decide +kernel
theorem dX12_spot_1 : decode cX12_spot 1 = .ok (.iconst 0, 1) := by decide +kernel
theorem dX12_spot_2 : decode cX12_spot 2 = .ok (.putfield 253, 3) := by decide +kernel
theorem dX12_spot_5 : decode cX12_spot 5 = .ok (.aload_n 0, 1) := by decide +kernel
theorem dX12_spot_6 : decode cX12_spot 6 = .ok (.iload_n 1, 1) := by decide +kernel
theorem dX12_spot_7 : decode cX12_spot 7 = .ok (.iload_n 2, 1) := by decide +kernel
theorem dX12_spot_8 : decode cX12_spot 8 = .ok (.invokestatic 261, 3) := by decide +kernel
theorem dX12_spot_11 : decode cX12_spot 11 = .ok (.ifCond .eq 14, 3) := by decide +kernel
theorem dX12_spot_14 : decode cX12_spot 14 = .ok (.iload_n 3, 1) := by decide +kernel
theorem dX12_spot_15 : decode cX12_spot 15 = .ok (.iconst 1, 1) := by decide +kernel
theorem dX12_spot_16 : decode cX12_spot 16 = .ok (.sipush 1000, 3) := by decide +kernel
theorem dX12_spot_19 : decode cX12_spot 19 = .ok (.invokestatic 257, 3) := by decide +kernel
theorem dX12_spot_22 : decode cX12_spot 22 = .ok (.ifCond .ne 7, 3) := by decide +kernel
theorem dX12_spot_25 : decode cX12_spot 25 = .ok (.iconst 1, 1) := by decide +kernel
theorem dX12_spot_26 : decode cX12_spot 26 = .ok (.goto 4, 3) := by decide +kernel
theorem dX12_spot_29 : decode cX12_spot 29 = .ok (.iconst 0, 1) := by decide +kernel
theorem dX12_spot_30 : decode cX12_spot 30 = .ok (.iconst 1, 1) := by decide +kernel
theorem dX12_spot_31 : decode cX12_spot 31 = .ok (.invokevirtual 265, 3) := by decide +kernel
theorem dX12_spot_34 : decode cX12_spot 34 = .ok (.ifCond .eq 5, 3) := by decide +kernel
theorem dX12_spot_37 : decode cX12_spot 37 = .ok (.iconst 0, 1) := by decide +kernel
theorem dX12_spot_38 : decode cX12_spot 38 = .ok (.ireturn, 1) := by decide +kernel
theorem dX12_spot_39 : decode cX12_spot 39 = .ok (.aload_n 0, 1) := by decide +kernel
theorem dX12_spot_40 : decode cX12_spot 40 = .ok (.getfield 622, 3) := by decide +kernel
theorem dX12_spot_43 : decode cX12_spot 43 = .ok (.bipush 8, 2) := by decide +kernel
theorem dX12_spot_45 : decode cX12_spot 45 = .ok (.if_icmp .ne 5, 3) := by decide +kernel
theorem dX12_spot_48 : decode cX12_spot 48 = .ok (.iconst (-1), 1) := by decide +kernel
theorem dX12_spot_49 : decode cX12_spot 49 = .ok (.ireturn, 1) := by decide +kernel
theorem dX12_spot_50 : decode cX12_spot 50 = .ok (.aload_n 0, 1) := by decide +kernel
theorem dX12_spot_51 : decode cX12_spot 51 = .ok (.getfield 205, 3) := by decide +kernel
theorem dX12_spot_54 : decode cX12_spot 54 = .ok (.aload_n 0, 1) := by decide +kernel
theorem dX12_spot_55 : decode cX12_spot 55 = .ok (.getfield 622, 3) := by decide +kernel
theorem dX12_spot_58 : decode cX12_spot 58 = .ok (.iload_n 1, 1) := by decide +kernel
theorem dX12_spot_59 : decode cX12_spot 59 = .ok (.iastore, 1) := by decide +kernel
theorem dX12_spot_60 : decode cX12_spot 60 = .ok (.aload_n 0, 1) := by decide +kernel
theorem dX12_spot_61 : decode cX12_spot 61 = .ok (.getfield 208, 3) := by decide +kernel
theorem dX12_spot_64 : decode cX12_spot 64 = .ok (.aload_n 0, 1) := by decide +kernel
theorem dX12_spot_65 : decode cX12_spot 65 = .ok (.getfield 622, 3) := by decide +kernel
theorem dX12_spot_68 : decode cX12_spot 68 = .ok (.iload_n 2, 1) := by decide +kernel
theorem dX12_spot_69 : decode cX12_spot 69 = .ok (.iastore, 1) := by decide +kernel
theorem dX12_spot_70 : decode cX12_spot 70 = .ok (.aload_n 0, 1) := by decide +kernel
theorem dX12_spot_71 : decode cX12_spot 71 = .ok (.getfield 211, 3) := by decide +kernel
theorem dX12_spot_74 : decode cX12_spot 74 = .ok (.aload_n 0, 1) := by decide +kernel
theorem dX12_spot_75 : decode cX12_spot 75 = .ok (.getfield 622, 3) := by decide +kernel
theorem dX12_spot_78 : decode cX12_spot 78 = .ok (.iload_n 3, 1) := by decide +kernel
theorem dX12_spot_79 : decode cX12_spot 79 = .ok (.iastore, 1) := by decide +kernel
theorem dX12_spot_80 : decode cX12_spot 80 = .ok (.aload_n 0, 1) := by decide +kernel
theorem dX12_spot_81 : decode cX12_spot 81 = .ok (.dup, 1) := by decide +kernel
theorem dX12_spot_82 : decode cX12_spot 82 = .ok (.getfield 622, 3) := by decide +kernel
theorem dX12_spot_85 : decode cX12_spot 85 = .ok (.iconst 1, 1) := by decide +kernel
theorem dX12_spot_86 : decode cX12_spot 86 = .ok (.iadd, 1) := by decide +kernel
theorem dX12_spot_87 : decode cX12_spot 87 = .ok (.putfield 622, 3) := by decide +kernel
theorem dX12_spot_90 : decode cX12_spot 90 = .ok (.aload_n 0, 1) := by decide +kernel
theorem dX12_spot_91 : decode cX12_spot 91 = .ok (.getfield 622, 3) := by decide +kernel
theorem dX12_spot_94 : decode cX12_spot 94 = .ok (.iconst 1, 1) := by decide +kernel
theorem dX12_spot_95 : decode cX12_spot 95 = .ok (.isub, 1) := by decide +kernel
theorem dX12_spot_96 : decode cX12_spot 96 = .ok (.ireturn, 1) := by decide +kernel
def B_M_spot_30   (x1 : Int32) (x2 : Int32) (x3 : Int32) (z1 : Int32) (σ : CS) : Option (Int32 × CS) := bnd (f_M_bad z1 1 σ) (fun r31 σ31 => if r31 = 0 then if (σ31.1 92) = 8 then some ((-1), σ31) else gix (σ31.1 92) 8 (gix (σ31.1 92) 8 (gix (σ31.1 92) 8 (some ((((σ31.1 92) + 1) - 1), (sF (wr (wr (wr σ31 93 (σ31.1 92) x1) 94 (σ31.1 92) x2) 95 (σ31.1 92) x3) 92 ((σ31.1 92) + 1)))))) else some (0, σ31))
set_option maxHeartbeats 4000000 in
set_option maxRecDepth 100000 in
theorem w_M_spot_30 (C : Cx g p s m args meth c A 4 cX12_spot yX12_spot.cls) (hr : meth.sig.returnType = (some .int))  {res : Int32 × CS}   (x1 : Int32) (x2 : Int32) (x3 : Int32) (z1 : Int32)  (σ : CS) (h : B_M_spot_30 x1 x2 x3 z1 σ = some res) : NMI g p l e s m args below meth c A 2 43 4 am Rr res σ [(0, .ref (am 112)), (1, .int x1), (2, .int x2), (3, .int x3)] 30 [.int z1, .ref (am 112)] := by
  unfold B_M_spot_30 at h
  refine nw_iconst (v := 1) C dX12_spot_30 (by decide) ?_
  refine nm_callVI (q0 := 0) (As := [.int z1, .int 1]) (rest := []) C h (fun _ _ e => c_M_bad e) tw_1924 kv_X12_bad ml_O rfl ⟨Nat.le_of_ble_eq_true rfl, Nat.le_of_ble_eq_true rfl⟩ rfl dX12_spot_31 rfl (Nat.le_of_ble_eq_true rfl) (fun r31 σ31 h => ?_)
  refine nw_if_eq (tgt := 39) C dX12_spot_34 (by decide) h (fun _ h => ?_) (fun _ h => ?_)
  · refine nw_aload_n C dX12_spot_39 rfl 0 rfl ?_
    refine nw_get (v := .int (σ31.1 92)) C in_X12 0 ml_O rfl 92 (by decide) tw_1665 rfl mf_92 dX12_spot_40 ?_
    refine nw_bipush (v := 8) C dX12_spot_43 (by decide) ?_
    refine nw_icmp_ne (tgt := 50) C dX12_spot_45 (by decide) h (fun _ h => ?_) (fun _ h => ?_)
    · refine nw_iconst (v := (-1)) C dX12_spot_48 (by decide) ?_
      exact nm_iret C hr dX12_spot_49 h
    · refine nw_aload_n C dX12_spot_50 rfl 0 rfl ?_
      refine nw_get (v := .ref (am 93)) C in_X12 0 ml_O rfl 93 (by decide) tw_1666 rfl mf_93 dX12_spot_51 ?_
      refine nw_aload_n C dX12_spot_54 rfl 0 rfl ?_
      refine nw_get (v := .int (σ31.1 92)) C in_X12 0 ml_O rfl 92 (by decide) tw_1665 rfl mf_92 dX12_spot_55 ?_
      refine nw_iload_n C dX12_spot_58 rfl 1 rfl ?_
      refine nw_iast C 64 ml_93 dX12_spot_59 h ms_93 (fun h => ?_)
      refine nw_aload_n C dX12_spot_60 rfl 0 rfl ?_
      refine nw_get (v := .ref (am 94)) C in_X12 0 ml_O rfl 94 (by decide) tw_1667 rfl mf_94 dX12_spot_61 ?_
      refine nw_aload_n C dX12_spot_64 rfl 0 rfl ?_
      refine nw_get (v := .int (σ31.1 92)) C in_X12 0 ml_O rfl 92 (by decide) tw_1665 rfl rfl dX12_spot_65 ?_
      refine nw_iload_n C dX12_spot_68 rfl 2 rfl ?_
      refine nw_iast C 65 ml_94 dX12_spot_69 h ms_94 (fun h => ?_)
      refine nw_aload_n C dX12_spot_70 rfl 0 rfl ?_
      refine nw_get (v := .ref (am 95)) C in_X12 0 ml_O rfl 95 (by decide) tw_1668 rfl mf_95 dX12_spot_71 ?_
      refine nw_aload_n C dX12_spot_74 rfl 0 rfl ?_
      refine nw_get (v := .int (σ31.1 92)) C in_X12 0 ml_O rfl 92 (by decide) tw_1665 rfl rfl dX12_spot_75 ?_
      refine nw_iload_n C dX12_spot_78 rfl 3 rfl ?_
      refine nw_iast C 66 ml_95 dX12_spot_79 h ms_95 (fun h => ?_)
      refine nw_aload_n C dX12_spot_80 rfl 0 rfl ?_
      refine nw_dup C dX12_spot_81 rfl ?_
      refine nw_get (v := .int (σ31.1 92)) C in_X12 0 ml_O rfl 92 (by decide) tw_1665 rfl rfl dX12_spot_82 ?_
      refine nw_iconst (v := 1) C dX12_spot_85 (by decide) ?_
      refine nw_iadd C dX12_spot_86 ?_
      refine nw_put (ty := .int) C in_X12 0 ml_O rfl 92 (by decide) tyX12 tyX12_ok nmX12 tw_1665 rfl rfl (by decide +kernel) rfl rfl (Nat.le_of_ble_eq_true rfl) dX12_spot_87 ms_92 ?_
      refine nw_aload_n C dX12_spot_90 rfl 0 rfl ?_
      refine nw_get (v := .int ((σ31.1 92) + 1)) C in_X12 0 ml_O rfl 92 (by decide) tw_1665 rfl rfl dX12_spot_91 ?_
      refine nw_iconst (v := 1) C dX12_spot_94 (by decide) ?_
      refine nw_isub C dX12_spot_95 ?_
      exact nm_iret C hr dX12_spot_96 h
  · refine nw_iconst (v := 0) C dX12_spot_37 (by decide) ?_
    exact nm_iret C hr dX12_spot_38 h
def f_M_spot (p0 : Int32) (p1 : Int32) (p2 : Int32) (σ : CS) : Option (Int32 × CS) := bnd (f_M_isPlace p0 p1 (sF σ 0 0)) (fun r8 σ8 => if r8 = 0 then B_M_spot_30 p0 p1 p2 1 σ8 else bnd (f_M_in p2 1 1000 σ8) (fun r19 σ19 => if r19 = 0 then B_M_spot_30 p0 p1 p2 1 σ19 else B_M_spot_30 p0 p1 p2 0 σ19))
set_option maxHeartbeats 4000000 in
set_option maxRecDepth 100000 in
theorem c_M_spot {l : Launch} {g : EG} {am : Nat → Nat} {Rr : va_W} {σ σ' : CS} {r : Int32} {p0 : Int32} {p1 : Int32} {p2 : Int32}  (h : f_M_spot p0 p1 p2 σ = some (r, σ')) : CmI l g yX12_spot (.code yX12_spot cX12_spot 4 (some .int)) 2 43 am Rr σ [.ref (am 112), .int p0, .int p1, .int p2] r σ' := by
  refine Ct.of rfl (by decide) (Nat.le_of_ble_eq_true rfl) ?_
  intro p e s m args below meth c A C hr
  show NMI g p l e s m args below meth c A 2 43 4 am Rr (r, σ') σ [(0, .ref (am 112)), (1, .int p0), (2, .int p1), (3, .int p2)] 0 []
  unfold f_M_spot at h
  refine nw_aload_n C dX12_spot_0 rfl 0 rfl ?_
  refine nw_iconst (v := 0) C dX12_spot_1 (by decide) ?_
  refine nw_put (ty := .int) C in_X12 0 ml_O rfl 0 (by decide) tyX12 tyX12_ok nmX12 tw_1573 rfl rfl (by decide +kernel) rfl rfl (Nat.le_of_ble_eq_true rfl) dX12_spot_2 ms_0 ?_
  refine nw_aload_n C dX12_spot_5 rfl 0 rfl ?_
  refine nw_iload_n C dX12_spot_6 rfl 1 rfl ?_
  refine nw_iload_n C dX12_spot_7 rfl 2 rfl ?_
  refine nm_callSI  (As := [.int p0, .int p1]) (rest := [.ref (am 112)]) C h (fun _ _ e => c_M_isPlace e) tw_1921 ks_X12_isPlace ⟨Nat.le_of_ble_eq_true rfl, Nat.le_of_ble_eq_true rfl⟩ rfl dX12_spot_8 rfl (Nat.le_of_ble_eq_true rfl) (fun r8 σ8 h => ?_)
  refine nw_if_eq (tgt := 25) C dX12_spot_11 (by decide) h (fun _ h => ?_) (fun _ h => ?_)
  · refine nw_iconst (v := 1) C dX12_spot_25 (by decide) ?_
    refine nw_goto (tgt := 30) C dX12_spot_26 (by decide) ?_
    exact nw_lv (lv' := [(0, .ref (am 112)), (1, .int p0), (2, .int p1), (3, .int p2)]) [0, 1, 2, 3] rfl (w_M_spot_30 C hr p0 p1 p2 1 _ h)
  · refine nw_iload_n C dX12_spot_14 rfl 3 rfl ?_
    refine nw_iconst (v := 1) C dX12_spot_15 (by decide) ?_
    refine nw_sipush (v := 1000) C dX12_spot_16 (by decide) ?_
    refine nm_callSI  (As := [.int p2, .int 1, .int 1000]) (rest := [.ref (am 112)]) C h (fun _ _ e => c_M_in e) tw_1918 ks_X12_in ⟨Nat.le_of_ble_eq_true rfl, Nat.le_of_ble_eq_true rfl⟩ rfl dX12_spot_19 rfl (Nat.le_of_ble_eq_true rfl) (fun r19 σ19 h => ?_)
    refine nw_if_ne (tgt := 29) C dX12_spot_22 (by decide) h (fun _ h => ?_) (fun _ h => ?_)
    · refine nw_iconst (v := 1) C dX12_spot_25 (by decide) ?_
      refine nw_goto (tgt := 30) C dX12_spot_26 (by decide) ?_
      exact nw_lv (lv' := [(0, .ref (am 112)), (1, .int p0), (2, .int p1), (3, .int p2)]) [0, 1, 2, 3] rfl (w_M_spot_30 C hr p0 p1 p2 1 _ h)
    · refine nw_iconst (v := 0) C dX12_spot_29 (by decide) ?_
      exact nw_lv (lv' := [(0, .ref (am 112)), (1, .int p0), (2, .int p1), (3, .int p2)]) [0, 1, 2, 3] rfl (w_M_spot_30 C hr p0 p1 p2 0 _ h)
theorem dX12_rounds_0 : decode cX12_rounds 0 = .ok (.aload_n 0, 1) := by decide +kernel
theorem dX12_rounds_1 : decode cX12_rounds 1 = .ok (.getfield 220, 3) := by decide +kernel
theorem dX12_rounds_4 : decode cX12_rounds 4 = .ok (.iload_n 1, 1) := by decide +kernel
theorem dX12_rounds_5 : decode cX12_rounds 5 = .ok (.iaload, 1) := by decide +kernel
theorem dX12_rounds_6 : decode cX12_rounds 6 = .ok (.istore_n 2, 1) := by decide +kernel
theorem dX12_rounds_7 : decode cX12_rounds 7 = .ok (.iconst 0, 1) := by decide +kernel
theorem dX12_rounds_8 : decode cX12_rounds 8 = .ok (.istore_n 3, 1) := by decide +kernel
theorem dX12_rounds_9 : decode cX12_rounds 9 = .ok (.iload_n 3, 1) := by decide +kernel
theorem dX12_rounds_10 : decode cX12_rounds 10 = .ok (.iconst 1, 1) := by decide +kernel
theorem dX12_rounds_11 : decode cX12_rounds 11 = .ok (.aload_n 0, 1) := by decide +kernel
theorem dX12_rounds_12 : decode cX12_rounds 12 = .ok (.getfield 622, 3) := by decide +kernel
theorem dX12_rounds_15 : decode cX12_rounds 15 = .ok (.ishl, 1) := by decide +kernel
theorem dX12_rounds_16 : decode cX12_rounds 16 = .ok (.if_icmp .ge 279, 3) := by decide +kernel
theorem dX12_rounds_19 : decode cX12_rounds 19 = .ok (.iload_n 3, 1) := by decide +kernel
theorem dX12_rounds_20 : decode cX12_rounds 20 = .ok (.ifCond .ne 7, 3) := by decide +kernel
theorem dX12_rounds_23 : decode cX12_rounds 23 = .ok (.iconst 0, 1) := by decide +kernel
theorem dX12_rounds_24 : decode cX12_rounds 24 = .ok (.goto 6, 3) := by decide +kernel
theorem dX12_rounds_27 : decode cX12_rounds 27 = .ok (.ldc_w 625, 3) := by decide +kernel
theorem dX12_rounds_30 : decode cX12_rounds 30 = .ok (.istore 4, 2) := by decide +kernel
theorem dX12_rounds_32 : decode cX12_rounds 32 = .ok (.iconst 0, 1) := by decide +kernel
theorem dX12_rounds_33 : decode cX12_rounds 33 = .ok (.istore 5, 2) := by decide +kernel
theorem dX12_rounds_35 : decode cX12_rounds 35 = .ok (.iload 5, 2) := by decide +kernel
theorem dX12_rounds_37 : decode cX12_rounds 37 = .ok (.aload_n 0, 1) := by decide +kernel
theorem dX12_rounds_38 : decode cX12_rounds 38 = .ok (.getfield 622, 3) := by decide +kernel
theorem dX12_rounds_41 : decode cX12_rounds 41 = .ok (.if_icmp .ge 220, 3) := by decide +kernel
theorem dX12_rounds_44 : decode cX12_rounds 44 = .ok (.aload_n 0, 1) := by decide +kernel
theorem dX12_rounds_45 : decode cX12_rounds 45 = .ok (.getfield 205, 3) := by decide +kernel
theorem dX12_rounds_48 : decode cX12_rounds 48 = .ok (.iload 5, 2) := by decide +kernel
theorem dX12_rounds_50 : decode cX12_rounds 50 = .ok (.iaload, 1) := by decide +kernel
theorem dX12_rounds_51 : decode cX12_rounds 51 = .ok (.aload_n 0, 1) := by decide +kernel
theorem dX12_rounds_52 : decode cX12_rounds 52 = .ok (.getfield 196, 3) := by decide +kernel
theorem dX12_rounds_55 : decode cX12_rounds 55 = .ok (.iload_n 2, 1) := by decide +kernel
theorem dX12_rounds_56 : decode cX12_rounds 56 = .ok (.iaload, 1) := by decide +kernel
theorem dX12_rounds_57 : decode cX12_rounds 57 = .ok (.isub, 1) := by decide +kernel
theorem dX12_rounds_58 : decode cX12_rounds 58 = .ok (.invokestatic 322, 3) := by decide +kernel
theorem dX12_rounds_61 : decode cX12_rounds 61 = .ok (.aload_n 0, 1) := by decide +kernel
theorem dX12_rounds_62 : decode cX12_rounds 62 = .ok (.getfield 208, 3) := by decide +kernel
theorem dX12_rounds_65 : decode cX12_rounds 65 = .ok (.iload 5, 2) := by decide +kernel
theorem dX12_rounds_67 : decode cX12_rounds 67 = .ok (.iaload, 1) := by decide +kernel
theorem dX12_rounds_68 : decode cX12_rounds 68 = .ok (.aload_n 0, 1) := by decide +kernel
theorem dX12_rounds_69 : decode cX12_rounds 69 = .ok (.getfield 199, 3) := by decide +kernel
theorem dX12_rounds_72 : decode cX12_rounds 72 = .ok (.iload_n 2, 1) := by decide +kernel
theorem dX12_rounds_73 : decode cX12_rounds 73 = .ok (.iaload, 1) := by decide +kernel
theorem dX12_rounds_74 : decode cX12_rounds 74 = .ok (.isub, 1) := by decide +kernel
theorem dX12_rounds_75 : decode cX12_rounds 75 = .ok (.invokestatic 322, 3) := by decide +kernel
theorem dX12_rounds_78 : decode cX12_rounds 78 = .ok (.iadd, 1) := by decide +kernel
theorem dX12_rounds_79 : decode cX12_rounds 79 = .ok (.istore 6, 2) := by decide +kernel
theorem dX12_rounds_81 : decode cX12_rounds 81 = .ok (.ldc_w 625, 3) := by decide +kernel
theorem dX12_rounds_84 : decode cX12_rounds 84 = .ok (.istore 7, 2) := by decide +kernel
theorem dX12_rounds_86 : decode cX12_rounds 86 = .ok (.iload_n 3, 1) := by decide +kernel
theorem dX12_rounds_87 : decode cX12_rounds 87 = .ok (.iload 5, 2) := by decide +kernel
theorem dX12_rounds_89 : decode cX12_rounds 89 = .ok (.ishr, 1) := by decide +kernel
theorem dX12_rounds_90 : decode cX12_rounds 90 = .ok (.iconst 1, 1) := by decide +kernel
theorem dX12_rounds_91 : decode cX12_rounds 91 = .ok (.iand, 1) := by decide +kernel
theorem dX12_rounds_92 : decode cX12_rounds 92 = .ok (.iconst 1, 1) := by decide +kernel
theorem dX12_rounds_93 : decode cX12_rounds 93 = .ok (.if_icmp .ne 148, 3) := by decide +kernel
theorem dX12_rounds_96 : decode cX12_rounds 96 = .ok (.iload_n 3, 1) := by decide +kernel
theorem dX12_rounds_97 : decode cX12_rounds 97 = .ok (.iconst 1, 1) := by decide +kernel
theorem dX12_rounds_98 : decode cX12_rounds 98 = .ok (.iload 5, 2) := by decide +kernel
theorem dX12_rounds_100 : decode cX12_rounds 100 = .ok (.ishl, 1) := by decide +kernel
theorem dX12_rounds_101 : decode cX12_rounds 101 = .ok (.ixor, 1) := by decide +kernel
theorem dX12_rounds_102 : decode cX12_rounds 102 = .ok (.istore 8, 2) := by decide +kernel
theorem dX12_rounds_104 : decode cX12_rounds 104 = .ok (.iload 8, 2) := by decide +kernel
theorem dX12_rounds_106 : decode cX12_rounds 106 = .ok (.ifCond .ne 8, 3) := by decide +kernel
theorem dX12_rounds_109 : decode cX12_rounds 109 = .ok (.iload 6, 2) := by decide +kernel
theorem dX12_rounds_111 : decode cX12_rounds 111 = .ok (.goto 6, 3) := by decide +kernel
theorem dX12_rounds_114 : decode cX12_rounds 114 = .ok (.ldc_w 625, 3) := by decide +kernel
theorem dX12_rounds_117 : decode cX12_rounds 117 = .ok (.istore 7, 2) := by decide +kernel
theorem dX12_rounds_119 : decode cX12_rounds 119 = .ok (.iconst 0, 1) := by decide +kernel
theorem dX12_rounds_120 : decode cX12_rounds 120 = .ok (.istore 9, 2) := by decide +kernel
theorem dX12_rounds_122 : decode cX12_rounds 122 = .ok (.iload 9, 2) := by decide +kernel
theorem dX12_rounds_124 : decode cX12_rounds 124 = .ok (.aload_n 0, 1) := by decide +kernel
theorem dX12_rounds_125 : decode cX12_rounds 125 = .ok (.getfield 622, 3) := by decide +kernel
theorem dX12_rounds_128 : decode cX12_rounds 128 = .ok (.if_icmp .ge 91, 3) := by decide +kernel
theorem dX12_rounds_131 : decode cX12_rounds 131 = .ok (.iload 8, 2) := by decide +kernel
theorem dX12_rounds_133 : decode cX12_rounds 133 = .ok (.iload 9, 2) := by decide +kernel
theorem dX12_rounds_135 : decode cX12_rounds 135 = .ok (.ishr, 1) := by decide +kernel
theorem dX12_rounds_136 : decode cX12_rounds 136 = .ok (.iconst 1, 1) := by decide +kernel
theorem dX12_rounds_137 : decode cX12_rounds 137 = .ok (.iand, 1) := by decide +kernel
theorem dX12_rounds_138 : decode cX12_rounds 138 = .ok (.ifCond .ne 6, 3) := by decide +kernel
theorem dX12_rounds_141 : decode cX12_rounds 141 = .ok (.goto 72, 3) := by decide +kernel
theorem dX12_rounds_144 : decode cX12_rounds 144 = .ok (.aload_n 0, 1) := by decide +kernel
theorem dX12_rounds_145 : decode cX12_rounds 145 = .ok (.getfield 214, 3) := by decide +kernel
theorem dX12_rounds_148 : decode cX12_rounds 148 = .ok (.bipush 8, 2) := by decide +kernel
theorem dX12_rounds_150 : decode cX12_rounds 150 = .ok (.iload 8, 2) := by decide +kernel
theorem dX12_rounds_152 : decode cX12_rounds 152 = .ok (.imul, 1) := by decide +kernel
theorem dX12_rounds_153 : decode cX12_rounds 153 = .ok (.iload 9, 2) := by decide +kernel
theorem dX12_rounds_155 : decode cX12_rounds 155 = .ok (.iadd, 1) := by decide +kernel
theorem dX12_rounds_156 : decode cX12_rounds 156 = .ok (.iaload, 1) := by decide +kernel
theorem dX12_rounds_157 : decode cX12_rounds 157 = .ok (.aload_n 0, 1) := by decide +kernel
theorem dX12_rounds_158 : decode cX12_rounds 158 = .ok (.getfield 205, 3) := by decide +kernel
theorem dX12_rounds_161 : decode cX12_rounds 161 = .ok (.iload 5, 2) := by decide +kernel
theorem dX12_rounds_163 : decode cX12_rounds 163 = .ok (.iaload, 1) := by decide +kernel
theorem dX12_rounds_164 : decode cX12_rounds 164 = .ok (.aload_n 0, 1) := by decide +kernel
theorem dX12_rounds_165 : decode cX12_rounds 165 = .ok (.getfield 205, 3) := by decide +kernel
theorem dX12_rounds_168 : decode cX12_rounds 168 = .ok (.iload 9, 2) := by decide +kernel
theorem dX12_rounds_170 : decode cX12_rounds 170 = .ok (.iaload, 1) := by decide +kernel
theorem dX12_rounds_171 : decode cX12_rounds 171 = .ok (.isub, 1) := by decide +kernel
theorem dX12_rounds_172 : decode cX12_rounds 172 = .ok (.invokestatic 322, 3) := by decide +kernel
theorem dX12_rounds_175 : decode cX12_rounds 175 = .ok (.iadd, 1) := by decide +kernel
theorem dX12_rounds_176 : decode cX12_rounds 176 = .ok (.aload_n 0, 1) := by decide +kernel
theorem dX12_rounds_177 : decode cX12_rounds 177 = .ok (.getfield 208, 3) := by decide +kernel
theorem dX12_rounds_180 : decode cX12_rounds 180 = .ok (.iload 5, 2) := by decide +kernel
theorem dX12_rounds_182 : decode cX12_rounds 182 = .ok (.iaload, 1) := by decide +kernel
theorem dX12_rounds_183 : decode cX12_rounds 183 = .ok (.aload_n 0, 1) := by decide +kernel
theorem dX12_rounds_184 : decode cX12_rounds 184 = .ok (.getfield 208, 3) := by decide +kernel
theorem dX12_rounds_187 : decode cX12_rounds 187 = .ok (.iload 9, 2) := by decide +kernel
theorem dX12_rounds_189 : decode cX12_rounds 189 = .ok (.iaload, 1) := by decide +kernel
theorem dX12_rounds_190 : decode cX12_rounds 190 = .ok (.isub, 1) := by decide +kernel
theorem dX12_rounds_191 : decode cX12_rounds 191 = .ok (.invokestatic 322, 3) := by decide +kernel
theorem dX12_rounds_194 : decode cX12_rounds 194 = .ok (.iadd, 1) := by decide +kernel
theorem dX12_rounds_195 : decode cX12_rounds 195 = .ok (.istore 10, 2) := by decide +kernel
theorem dX12_rounds_197 : decode cX12_rounds 197 = .ok (.iload 10, 2) := by decide +kernel
theorem dX12_rounds_199 : decode cX12_rounds 199 = .ok (.iload 7, 2) := by decide +kernel
theorem dX12_rounds_201 : decode cX12_rounds 201 = .ok (.if_icmp .ge 8, 3) := by decide +kernel
theorem dX12_rounds_204 : decode cX12_rounds 204 = .ok (.iload 10, 2) := by decide +kernel
theorem dX12_rounds_206 : decode cX12_rounds 206 = .ok (.goto 5, 3) := by decide +kernel
theorem dX12_rounds_209 : decode cX12_rounds 209 = .ok (.iload 7, 2) := by decide +kernel
theorem dX12_rounds_211 : decode cX12_rounds 211 = .ok (.istore 7, 2) := by decide +kernel
theorem dX12_rounds_213 : decode cX12_rounds 213 = .ok (.iinc 9 1, 3) := by decide +kernel
theorem dX12_rounds_216 : decode cX12_rounds 216 = .ok (.goto (-94), 3) := by decide +kernel
theorem dX12_rounds_219 : decode cX12_rounds 219 = .ok (.iload 7, 2) := by decide +kernel
theorem dX12_rounds_221 : decode cX12_rounds 221 = .ok (.iload 6, 2) := by decide +kernel
theorem dX12_rounds_223 : decode cX12_rounds 223 = .ok (.iadd, 1) := by decide +kernel
theorem dX12_rounds_224 : decode cX12_rounds 224 = .ok (.iload 4, 2) := by decide +kernel
theorem dX12_rounds_226 : decode cX12_rounds 226 = .ok (.if_icmp .ge 11, 3) := by decide +kernel
theorem dX12_rounds_229 : decode cX12_rounds 229 = .ok (.iload 7, 2) := by decide +kernel
theorem dX12_rounds_231 : decode cX12_rounds 231 = .ok (.iload 6, 2) := by decide +kernel
theorem dX12_rounds_233 : decode cX12_rounds 233 = .ok (.iadd, 1) := by decide +kernel
theorem dX12_rounds_234 : decode cX12_rounds 234 = .ok (.goto 5, 3) := by decide +kernel
theorem dX12_rounds_237 : decode cX12_rounds 237 = .ok (.iload 4, 2) := by decide +kernel
theorem dX12_rounds_239 : decode cX12_rounds 239 = .ok (.istore 4, 2) := by decide +kernel
theorem dX12_rounds_241 : decode cX12_rounds 241 = .ok (.aload_n 0, 1) := by decide +kernel
theorem dX12_rounds_242 : decode cX12_rounds 242 = .ok (.getfield 214, 3) := by decide +kernel
theorem dX12_rounds_245 : decode cX12_rounds 245 = .ok (.bipush 8, 2) := by decide +kernel
theorem dX12_rounds_247 : decode cX12_rounds 247 = .ok (.iload_n 3, 1) := by decide +kernel
theorem dX12_rounds_248 : decode cX12_rounds 248 = .ok (.imul, 1) := by decide +kernel
theorem dX12_rounds_249 : decode cX12_rounds 249 = .ok (.iload 5, 2) := by decide +kernel
theorem dX12_rounds_251 : decode cX12_rounds 251 = .ok (.iadd, 1) := by decide +kernel
theorem dX12_rounds_252 : decode cX12_rounds 252 = .ok (.iload 7, 2) := by decide +kernel
theorem dX12_rounds_254 : decode cX12_rounds 254 = .ok (.iastore, 1) := by decide +kernel
theorem dX12_rounds_255 : decode cX12_rounds 255 = .ok (.iinc 5 1, 3) := by decide +kernel
theorem dX12_rounds_258 : decode cX12_rounds 258 = .ok (.goto (-223), 3) := by decide +kernel
theorem dX12_rounds_261 : decode cX12_rounds 261 = .ok (.aload_n 0, 1) := by decide +kernel
theorem dX12_rounds_262 : decode cX12_rounds 262 = .ok (.getfield 217, 3) := by decide +kernel
theorem dX12_rounds_265 : decode cX12_rounds 265 = .ok (.sipush 256, 3) := by decide +kernel
theorem dX12_rounds_268 : decode cX12_rounds 268 = .ok (.iload_n 1, 1) := by decide +kernel
theorem dX12_rounds_269 : decode cX12_rounds 269 = .ok (.imul, 1) := by decide +kernel
theorem dX12_rounds_270 : decode cX12_rounds 270 = .ok (.iload_n 3, 1) := by decide +kernel
theorem dX12_rounds_271 : decode cX12_rounds 271 = .ok (.iadd, 1) := by decide +kernel
theorem dX12_rounds_272 : decode cX12_rounds 272 = .ok (.iload 4, 2) := by decide +kernel
theorem dX12_rounds_274 : decode cX12_rounds 274 = .ok (.aload_n 0, 1) := by decide +kernel
theorem dX12_rounds_275 : decode cX12_rounds 275 = .ok (.getfield 202, 3) := by decide +kernel
theorem dX12_rounds_278 : decode cX12_rounds 278 = .ok (.iload_n 2, 1) := by decide +kernel
theorem dX12_rounds_279 : decode cX12_rounds 279 = .ok (.iaload, 1) := by decide +kernel
theorem dX12_rounds_280 : decode cX12_rounds 280 = .ok (.if_icmp .gt 7, 3) := by decide +kernel
theorem dX12_rounds_283 : decode cX12_rounds 283 = .ok (.iconst 1, 1) := by decide +kernel
theorem dX12_rounds_284 : decode cX12_rounds 284 = .ok (.goto 4, 3) := by decide +kernel
theorem dX12_rounds_287 : decode cX12_rounds 287 = .ok (.iconst 0, 1) := by decide +kernel
theorem dX12_rounds_288 : decode cX12_rounds 288 = .ok (.bastore, 1) := by decide +kernel
theorem dX12_rounds_289 : decode cX12_rounds 289 = .ok (.iinc 3 1, 3) := by decide +kernel
theorem dX12_rounds_292 : decode cX12_rounds 292 = .ok (.goto (-283), 3) := by decide +kernel
theorem dX12_rounds_295 : decode cX12_rounds 295 = .ok (.return_, 1) := by decide +kernel
def L_M_rounds_122 (k219 : Int32 → Int32 → Int32 → Int32 → CS → Option (Int32 × CS)) (x1 : Int32) (x2 : Int32) (x3 : Int32) (x4 : Int32) (x5 : Int32) (x6 : Int32) (x8 : Int32) : Nat → Int32 → Int32 → CS → Option (Int32 × CS)
  | 0, _, _, _ => none
  | n + 1, x7, x9, σ => if (σ.1 92) ≤ x9 then k219 x4 x5 x6 x7 σ else if ((x8 >>> (x9 &&& 31)) &&& 1) = 0 then (L_M_rounds_122 k219 x1 x2 x3 x4 x5 x6 x8 n) x7 (x9 + 1) σ else gix ((8 * x8) + x9) 2048 (gix x5 8 (gix x9 8 (bnd (f_M_size ((rd σ 93 x5) - (rd σ 93 x9)) σ) (fun r172 σ172 => gix x5 8 (gix x9 8 (bnd (f_M_size ((rd σ172 94 x5) - (rd σ172 94 x9)) σ172) (fun r191 σ191 => if x7 ≤ (((rd σ 96 ((8 * x8) + x9)) + r172) + r191) then (L_M_rounds_122 k219 x1 x2 x3 x4 x5 x6 x8 n) x7 (x9 + 1) σ191 else (L_M_rounds_122 k219 x1 x2 x3 x4 x5 x6 x8 n) (((rd σ 96 ((8 * x8) + x9)) + r172) + r191) (x9 + 1) σ191)))))))
set_option maxHeartbeats 4000000 in
set_option maxRecDepth 100000 in
theorem w_M_rounds_122 (C : Cx g p s m args meth c A 11 cX12_rounds yX12_rounds.cls) (hr : meth.sig.returnType = none)  {res : Int32 × CS}  (x1 : Int32) (x2 : Int32) (x3 : Int32) (x4 : Int32) (x5 : Int32) (x6 : Int32) (x8 : Int32) {k219 : Int32 → Int32 → Int32 → Int32 → CS → Option (Int32 × CS)} (hk219 : ∀ (x4 : Int32) (x5 : Int32) (x6 : Int32) (x7 : Int32) (σ : CS), k219 x4 x5 x6 x7 σ = some res → NMV g p l e s m args below meth c A 1 20 11 am Rr res σ [(0, .ref (am 112)), (1, .int x1), (2, .int x2), (3, .int x3), (4, .int x4), (5, .int x5), (6, .int x6), (7, .int x7)] 219 []) : ∀ (n : Nat) (x7 : Int32) (x9 : Int32) (σ : CS), L_M_rounds_122 k219 x1 x2 x3 x4 x5 x6 x8 n x7 x9 σ = some res → NMV g p l e s m args below meth c A 1 20 11 am Rr res σ [(0, .ref (am 112)), (1, .int x1), (2, .int x2), (3, .int x3), (4, .int x4), (5, .int x5), (6, .int x6), (7, .int x7), (8, .int x8), (9, .int x9)] 122 [] := by
  intro n
  induction n with
  | zero =>
    intro x7 x9 σ h
    exact absurd (show (none : Option (Int32 × CS)) = some res from h) (by intro h9; cases h9)
  | succ n ih =>
    intro x7 x9 σ h
    rw [L_M_rounds_122] at h
    refine nw_iload C dX12_rounds_122 9 rfl ?_
    refine nw_aload_n C dX12_rounds_124 rfl 0 rfl ?_
    refine nw_get (v := .int (σ.1 92)) C in_X12 0 ml_O rfl 92 (by decide) tw_1665 rfl mf_92 dX12_rounds_125 ?_
    refine nw_icmp_ge (tgt := 219) C dX12_rounds_128 (by decide) h (fun _ h => ?_) (fun _ h => ?_)
    · exact nw_lv (lv' := [(0, .ref (am 112)), (1, .int x1), (2, .int x2), (3, .int x3), (4, .int x4), (5, .int x5), (6, .int x6), (7, .int x7)]) [0, 1, 2, 3, 4, 5, 6, 7] rfl (hk219 x4 x5 x6 x7 _ h)
    · refine nw_iload C dX12_rounds_131 8 rfl ?_
      refine nw_iload C dX12_rounds_133 9 rfl ?_
      refine nw_ishr C dX12_rounds_135 ?_
      refine nw_iconst (v := 1) C dX12_rounds_136 (by decide) ?_
      refine nw_iand C dX12_rounds_137 ?_
      refine nw_if_ne (tgt := 144) C dX12_rounds_138 (by decide) h (fun _ h => ?_) (fun _ h => ?_)
      · refine nw_goto (tgt := 213) C dX12_rounds_141 (by decide) ?_
        refine nw_iinc (lv' := [(9, .int (x9 + 1)), (0, .ref (am 112)), (1, .int x1), (2, .int x2), (3, .int x3), (4, .int x4), (5, .int x5), (6, .int x6), (7, .int x7), (8, .int x8)]) C (x9 + 1) dX12_rounds_213 9 rfl rfl (by decide) rfl ?_
        refine nw_goto (tgt := 122) C dX12_rounds_216 (by decide) ?_
        exact nw_lv (lv' := [(0, .ref (am 112)), (1, .int x1), (2, .int x2), (3, .int x3), (4, .int x4), (5, .int x5), (6, .int x6), (7, .int x7), (8, .int x8), (9, .int (x9 + 1))]) [1, 2, 3, 4, 5, 6, 7, 8, 9, 0] rfl (ih x7 (x9 + 1) _ h)
      · refine nw_aload_n C dX12_rounds_144 rfl 0 rfl ?_
        refine nw_get (v := .ref (am 96)) C in_X12 0 ml_O rfl 96 (by decide) tw_1669 rfl mf_96 dX12_rounds_145 ?_
        refine nw_bipush (v := 8) C dX12_rounds_148 (by decide) ?_
        refine nw_iload C dX12_rounds_150 8 rfl ?_
        refine nw_imul C dX12_rounds_152 ?_
        refine nw_iload C dX12_rounds_153 9 rfl ?_
        refine nw_iadd C dX12_rounds_155 ?_
        refine nw_iald C 67 ml_96 dX12_rounds_156 h (fun h => ?_)
        refine nw_aload_n C dX12_rounds_157 rfl 0 rfl ?_
        refine nw_get (v := .ref (am 93)) C in_X12 0 ml_O rfl 93 (by decide) tw_1666 rfl mf_93 dX12_rounds_158 ?_
        refine nw_iload C dX12_rounds_161 5 rfl ?_
        refine nw_iald C 64 ml_93 dX12_rounds_163 h (fun h => ?_)
        refine nw_aload_n C dX12_rounds_164 rfl 0 rfl ?_
        refine nw_get (v := .ref (am 93)) C in_X12 0 ml_O rfl 93 (by decide) tw_1666 rfl mf_93 dX12_rounds_165 ?_
        refine nw_iload C dX12_rounds_168 9 rfl ?_
        refine nw_iald C 64 ml_93 dX12_rounds_170 h (fun h => ?_)
        refine nw_isub C dX12_rounds_171 ?_
        refine nm_callSI  (As := [.int ((rd σ 93 x5) - (rd σ 93 x9))]) (rest := [.int (rd σ 96 ((8 * x8) + x9))]) C h (fun _ _ e => c_M_size e) tw_2006 ks_X12_size ⟨Nat.le_of_ble_eq_true rfl, Nat.le_of_ble_eq_true rfl⟩ rfl dX12_rounds_172 rfl (Nat.le_of_ble_eq_true rfl) (fun r172 σ172 h => ?_)
        refine nw_iadd C dX12_rounds_175 ?_
        refine nw_aload_n C dX12_rounds_176 rfl 0 rfl ?_
        refine nw_get (v := .ref (am 94)) C in_X12 0 ml_O rfl 94 (by decide) tw_1667 rfl mf_94 dX12_rounds_177 ?_
        refine nw_iload C dX12_rounds_180 5 rfl ?_
        refine nw_iald C 65 ml_94 dX12_rounds_182 h (fun h => ?_)
        refine nw_aload_n C dX12_rounds_183 rfl 0 rfl ?_
        refine nw_get (v := .ref (am 94)) C in_X12 0 ml_O rfl 94 (by decide) tw_1667 rfl mf_94 dX12_rounds_184 ?_
        refine nw_iload C dX12_rounds_187 9 rfl ?_
        refine nw_iald C 65 ml_94 dX12_rounds_189 h (fun h => ?_)
        refine nw_isub C dX12_rounds_190 ?_
        refine nm_callSI  (As := [.int ((rd σ172 94 x5) - (rd σ172 94 x9))]) (rest := [.int ((rd σ 96 ((8 * x8) + x9)) + r172)]) C h (fun _ _ e => c_M_size e) tw_2006 ks_X12_size ⟨Nat.le_of_ble_eq_true rfl, Nat.le_of_ble_eq_true rfl⟩ rfl dX12_rounds_191 rfl (Nat.le_of_ble_eq_true rfl) (fun r191 σ191 h => ?_)
        refine nw_iadd C dX12_rounds_194 ?_
        refine nw_istore (lv' := [(10, .int (((rd σ 96 ((8 * x8) + x9)) + r172) + r191)), (0, .ref (am 112)), (1, .int x1), (2, .int x2), (3, .int x3), (4, .int x4), (5, .int x5), (6, .int x6), (7, .int x7), (8, .int x8), (9, .int x9)]) C dX12_rounds_195 (by decide) rfl ?_
        refine nw_iload C dX12_rounds_197 0 rfl ?_
        refine nw_iload C dX12_rounds_199 8 rfl ?_
        refine nw_icmp_ge (tgt := 209) C dX12_rounds_201 (by decide) h (fun _ h => ?_) (fun _ h => ?_)
        · refine nw_iload C dX12_rounds_209 8 rfl ?_
          refine nw_istore (lv' := [(7, .int x7), (10, .int (((rd σ 96 ((8 * x8) + x9)) + r172) + r191)), (0, .ref (am 112)), (1, .int x1), (2, .int x2), (3, .int x3), (4, .int x4), (5, .int x5), (6, .int x6), (8, .int x8), (9, .int x9)]) C dX12_rounds_211 (by decide) rfl ?_
          refine nw_iinc (lv' := [(9, .int (x9 + 1)), (7, .int x7), (10, .int (((rd σ 96 ((8 * x8) + x9)) + r172) + r191)), (0, .ref (am 112)), (1, .int x1), (2, .int x2), (3, .int x3), (4, .int x4), (5, .int x5), (6, .int x6), (8, .int x8)]) C (x9 + 1) dX12_rounds_213 10 rfl rfl (by decide) rfl ?_
          refine nw_goto (tgt := 122) C dX12_rounds_216 (by decide) ?_
          exact nw_lv (lv' := [(0, .ref (am 112)), (1, .int x1), (2, .int x2), (3, .int x3), (4, .int x4), (5, .int x5), (6, .int x6), (7, .int x7), (8, .int x8), (9, .int (x9 + 1))]) [3, 4, 5, 6, 7, 8, 9, 1, 10, 0] rfl (ih x7 (x9 + 1) _ h)
        · refine nw_iload C dX12_rounds_204 0 rfl ?_
          refine nw_goto (tgt := 211) C dX12_rounds_206 (by decide) ?_
          refine nw_istore (lv' := [(7, .int (((rd σ 96 ((8 * x8) + x9)) + r172) + r191)), (10, .int (((rd σ 96 ((8 * x8) + x9)) + r172) + r191)), (0, .ref (am 112)), (1, .int x1), (2, .int x2), (3, .int x3), (4, .int x4), (5, .int x5), (6, .int x6), (8, .int x8), (9, .int x9)]) C dX12_rounds_211 (by decide) rfl ?_
          refine nw_iinc (lv' := [(9, .int (x9 + 1)), (7, .int (((rd σ 96 ((8 * x8) + x9)) + r172) + r191)), (10, .int (((rd σ 96 ((8 * x8) + x9)) + r172) + r191)), (0, .ref (am 112)), (1, .int x1), (2, .int x2), (3, .int x3), (4, .int x4), (5, .int x5), (6, .int x6), (8, .int x8)]) C (x9 + 1) dX12_rounds_213 10 rfl rfl (by decide) rfl ?_
          refine nw_goto (tgt := 122) C dX12_rounds_216 (by decide) ?_
          exact nw_lv (lv' := [(0, .ref (am 112)), (1, .int x1), (2, .int x2), (3, .int x3), (4, .int x4), (5, .int x5), (6, .int x6), (7, .int (((rd σ 96 ((8 * x8) + x9)) + r172) + r191)), (8, .int x8), (9, .int (x9 + 1))]) [3, 4, 5, 6, 7, 8, 9, 1, 10, 0] rfl (ih (((rd σ 96 ((8 * x8) + x9)) + r172) + r191) (x9 + 1) _ h)
def B_M_rounds_241 (k35 : Int32 → Int32 → CS → Option (Int32 × CS)) (x1 : Int32) (x2 : Int32) (x3 : Int32) (x4 : Int32) (x5 : Int32) (x7 : Int32) (σ : CS) : Option (Int32 × CS) := gix ((8 * x3) + x5) 2048 (k35 x4 (x5 + 1) (wr σ 96 ((8 * x3) + x5) x7))
set_option maxHeartbeats 4000000 in
set_option maxRecDepth 100000 in
theorem w_M_rounds_241 (C : Cx g p s m args meth c A 11 cX12_rounds yX12_rounds.cls) (hr : meth.sig.returnType = none)  {res : Int32 × CS}  (x1 : Int32) (x2 : Int32) (x3 : Int32) (x4 : Int32) (x5 : Int32) (x7 : Int32) {k35 : Int32 → Int32 → CS → Option (Int32 × CS)} (hk35 : ∀ (x4 : Int32) (x5 : Int32) (σ : CS), k35 x4 x5 σ = some res → NMV g p l e s m args below meth c A 1 20 11 am Rr res σ [(0, .ref (am 112)), (1, .int x1), (2, .int x2), (3, .int x3), (4, .int x4), (5, .int x5)] 35 []) (σ : CS) (h : B_M_rounds_241 k35 x1 x2 x3 x4 x5 x7 σ = some res) : NMV g p l e s m args below meth c A 1 20 11 am Rr res σ [(0, .ref (am 112)), (1, .int x1), (2, .int x2), (3, .int x3), (4, .int x4), (5, .int x5), (7, .int x7)] 241 [] := by
  unfold B_M_rounds_241 at h
  refine nw_aload_n C dX12_rounds_241 rfl 0 rfl ?_
  refine nw_get (v := .ref (am 96)) C in_X12 0 ml_O rfl 96 (by decide) tw_1669 rfl mf_96 dX12_rounds_242 ?_
  refine nw_bipush (v := 8) C dX12_rounds_245 (by decide) ?_
  refine nw_iload_n C dX12_rounds_247 rfl 3 rfl ?_
  refine nw_imul C dX12_rounds_248 ?_
  refine nw_iload C dX12_rounds_249 5 rfl ?_
  refine nw_iadd C dX12_rounds_251 ?_
  refine nw_iload C dX12_rounds_252 6 rfl ?_
  refine nw_iast C 67 ml_96 dX12_rounds_254 h ms_96 (fun h => ?_)
  refine nw_iinc (lv' := [(5, .int (x5 + 1)), (0, .ref (am 112)), (1, .int x1), (2, .int x2), (3, .int x3), (4, .int x4), (7, .int x7)]) C (x5 + 1) dX12_rounds_255 5 rfl rfl (by decide) rfl ?_
  refine nw_goto (tgt := 35) C dX12_rounds_258 (by decide) ?_
  exact nw_lv (lv' := [(0, .ref (am 112)), (1, .int x1), (2, .int x2), (3, .int x3), (4, .int x4), (5, .int (x5 + 1))]) [1, 2, 3, 4, 5, 0] rfl (hk35 x4 (x5 + 1) _ h)
def B_M_rounds_239 (k35 : Int32 → Int32 → CS → Option (Int32 × CS)) (x1 : Int32) (x2 : Int32) (x3 : Int32) (x5 : Int32) (x7 : Int32) (z0 : Int32) (σ : CS) : Option (Int32 × CS) := B_M_rounds_241 k35 x1 x2 x3 z0 x5 x7 σ
set_option maxHeartbeats 4000000 in
set_option maxRecDepth 100000 in
theorem w_M_rounds_239 (C : Cx g p s m args meth c A 11 cX12_rounds yX12_rounds.cls) (hr : meth.sig.returnType = none)  {res : Int32 × CS}  (x1 : Int32) (x2 : Int32) (x3 : Int32) (x5 : Int32) (x7 : Int32) (z0 : Int32) {k35 : Int32 → Int32 → CS → Option (Int32 × CS)} (hk35 : ∀ (x4 : Int32) (x5 : Int32) (σ : CS), k35 x4 x5 σ = some res → NMV g p l e s m args below meth c A 1 20 11 am Rr res σ [(0, .ref (am 112)), (1, .int x1), (2, .int x2), (3, .int x3), (4, .int x4), (5, .int x5)] 35 []) (σ : CS) (h : B_M_rounds_239 k35 x1 x2 x3 x5 x7 z0 σ = some res) : NMV g p l e s m args below meth c A 1 20 11 am Rr res σ [(0, .ref (am 112)), (1, .int x1), (2, .int x2), (3, .int x3), (5, .int x5), (7, .int x7)] 239 [.int z0] := by
  unfold B_M_rounds_239 at h
  refine nw_istore (lv' := [(4, .int z0), (0, .ref (am 112)), (1, .int x1), (2, .int x2), (3, .int x3), (5, .int x5), (7, .int x7)]) C dX12_rounds_239 (by decide) rfl ?_
  exact nw_lv (lv' := [(0, .ref (am 112)), (1, .int x1), (2, .int x2), (3, .int x3), (4, .int z0), (5, .int x5), (7, .int x7)]) [1, 2, 3, 4, 0, 5, 6] rfl (w_M_rounds_241 C hr x1 x2 x3 z0 x5 x7 hk35 _ h)
def B_M_rounds_219 (k35 : Int32 → Int32 → CS → Option (Int32 × CS)) (x1 : Int32) (x2 : Int32) (x3 : Int32) (x4 : Int32) (x5 : Int32) (x6 : Int32) (x7 : Int32) (σ : CS) : Option (Int32 × CS) := if x4 ≤ (x7 + x6) then B_M_rounds_239 k35 x1 x2 x3 x5 x7 x4 σ else B_M_rounds_239 k35 x1 x2 x3 x5 x7 (x7 + x6) σ
set_option maxHeartbeats 4000000 in
set_option maxRecDepth 100000 in
theorem w_M_rounds_219 (C : Cx g p s m args meth c A 11 cX12_rounds yX12_rounds.cls) (hr : meth.sig.returnType = none)  {res : Int32 × CS}  (x1 : Int32) (x2 : Int32) (x3 : Int32) (x4 : Int32) (x5 : Int32) (x6 : Int32) (x7 : Int32) {k35 : Int32 → Int32 → CS → Option (Int32 × CS)} (hk35 : ∀ (x4 : Int32) (x5 : Int32) (σ : CS), k35 x4 x5 σ = some res → NMV g p l e s m args below meth c A 1 20 11 am Rr res σ [(0, .ref (am 112)), (1, .int x1), (2, .int x2), (3, .int x3), (4, .int x4), (5, .int x5)] 35 []) (σ : CS) (h : B_M_rounds_219 k35 x1 x2 x3 x4 x5 x6 x7 σ = some res) : NMV g p l e s m args below meth c A 1 20 11 am Rr res σ [(0, .ref (am 112)), (1, .int x1), (2, .int x2), (3, .int x3), (4, .int x4), (5, .int x5), (6, .int x6), (7, .int x7)] 219 [] := by
  unfold B_M_rounds_219 at h
  refine nw_iload C dX12_rounds_219 7 rfl ?_
  refine nw_iload C dX12_rounds_221 6 rfl ?_
  refine nw_iadd C dX12_rounds_223 ?_
  refine nw_iload C dX12_rounds_224 4 rfl ?_
  refine nw_icmp_ge (tgt := 237) C dX12_rounds_226 (by decide) h (fun _ h => ?_) (fun _ h => ?_)
  · refine nw_iload C dX12_rounds_237 4 rfl ?_
    exact nw_lv (lv' := [(0, .ref (am 112)), (1, .int x1), (2, .int x2), (3, .int x3), (5, .int x5), (7, .int x7)]) [0, 1, 2, 3, 5, 7] rfl (w_M_rounds_239 C hr x1 x2 x3 x5 x7 x4 hk35 _ h)
  · refine nw_iload C dX12_rounds_229 7 rfl ?_
    refine nw_iload C dX12_rounds_231 6 rfl ?_
    refine nw_iadd C dX12_rounds_233 ?_
    refine nw_goto (tgt := 239) C dX12_rounds_234 (by decide) ?_
    exact nw_lv (lv' := [(0, .ref (am 112)), (1, .int x1), (2, .int x2), (3, .int x3), (5, .int x5), (7, .int x7)]) [0, 1, 2, 3, 5, 7] rfl (w_M_rounds_239 C hr x1 x2 x3 x5 x7 (x7 + x6) hk35 _ h)
def L_M_rounds_35 (k261 : Int32 → Int32 → CS → Option (Int32 × CS)) (x1 : Int32) (x2 : Int32) (x3 : Int32) : Nat → Int32 → Int32 → CS → Option (Int32 × CS)
  | 0, _, _, _ => none
  | n + 1, x4, x5, σ => if (σ.1 92) ≤ x5 then k261 x3 x4 σ else gix x5 8 (gix x2 6 (bnd (f_M_size ((rd σ 93 x5) - (rd σ 89 x2)) σ) (fun r58 σ58 => gix x5 8 (gix x2 6 (bnd (f_M_size ((rd σ58 94 x5) - (rd σ58 90 x2)) σ58) (fun r75 σ75 => if ((x3 >>> (x5 &&& 31)) &&& 1) = 1 then if (x3 ^^^ ((1 : Int32) <<< (x5 &&& 31))) = 0 then L_M_rounds_122 (B_M_rounds_219 (L_M_rounds_35 k261 x1 x2 x3 n) x1 x2 x3) x1 x2 x3 x4 x5 (r58 + r75) (x3 ^^^ ((1 : Int32) <<< (x5 &&& 31))) FU (r58 + r75) 0 σ75 else L_M_rounds_122 (B_M_rounds_219 (L_M_rounds_35 k261 x1 x2 x3 n) x1 x2 x3) x1 x2 x3 x4 x5 (r58 + r75) (x3 ^^^ ((1 : Int32) <<< (x5 &&& 31))) FU 1000000000 0 σ75 else B_M_rounds_241 (L_M_rounds_35 k261 x1 x2 x3 n) x1 x2 x3 x4 x5 1000000000 σ75))))))
set_option maxHeartbeats 4000000 in
set_option maxRecDepth 100000 in
theorem w_M_rounds_35 (C : Cx g p s m args meth c A 11 cX12_rounds yX12_rounds.cls) (hr : meth.sig.returnType = none)  {res : Int32 × CS}  (x1 : Int32) (x2 : Int32) (x3 : Int32) {k261 : Int32 → Int32 → CS → Option (Int32 × CS)} (hk261 : ∀ (x3 : Int32) (x4 : Int32) (σ : CS), k261 x3 x4 σ = some res → NMV g p l e s m args below meth c A 1 20 11 am Rr res σ [(0, .ref (am 112)), (1, .int x1), (2, .int x2), (3, .int x3), (4, .int x4)] 261 []) : ∀ (n : Nat) (x4 : Int32) (x5 : Int32) (σ : CS), L_M_rounds_35 k261 x1 x2 x3 n x4 x5 σ = some res → NMV g p l e s m args below meth c A 1 20 11 am Rr res σ [(0, .ref (am 112)), (1, .int x1), (2, .int x2), (3, .int x3), (4, .int x4), (5, .int x5)] 35 [] := by
  intro n
  induction n with
  | zero =>
    intro x4 x5 σ h
    exact absurd (show (none : Option (Int32 × CS)) = some res from h) (by intro h9; cases h9)
  | succ n ih =>
    intro x4 x5 σ h
    rw [L_M_rounds_35] at h
    refine nw_iload C dX12_rounds_35 5 rfl ?_
    refine nw_aload_n C dX12_rounds_37 rfl 0 rfl ?_
    refine nw_get (v := .int (σ.1 92)) C in_X12 0 ml_O rfl 92 (by decide) tw_1665 rfl mf_92 dX12_rounds_38 ?_
    refine nw_icmp_ge (tgt := 261) C dX12_rounds_41 (by decide) h (fun _ h => ?_) (fun _ h => ?_)
    · exact nw_lv (lv' := [(0, .ref (am 112)), (1, .int x1), (2, .int x2), (3, .int x3), (4, .int x4)]) [0, 1, 2, 3, 4] rfl (hk261 x3 x4 _ h)
    · refine nw_aload_n C dX12_rounds_44 rfl 0 rfl ?_
      refine nw_get (v := .ref (am 93)) C in_X12 0 ml_O rfl 93 (by decide) tw_1666 rfl mf_93 dX12_rounds_45 ?_
      refine nw_iload C dX12_rounds_48 5 rfl ?_
      refine nw_iald C 64 ml_93 dX12_rounds_50 h (fun h => ?_)
      refine nw_aload_n C dX12_rounds_51 rfl 0 rfl ?_
      refine nw_get (v := .ref (am 89)) C in_X12 0 ml_O rfl 89 (by decide) tw_1662 rfl mf_89 dX12_rounds_52 ?_
      refine nw_iload_n C dX12_rounds_55 rfl 2 rfl ?_
      refine nw_iald C 61 ml_89 dX12_rounds_56 h (fun h => ?_)
      refine nw_isub C dX12_rounds_57 ?_
      refine nm_callSI  (As := [.int ((rd σ 93 x5) - (rd σ 89 x2))]) (rest := []) C h (fun _ _ e => c_M_size e) tw_2006 ks_X12_size ⟨Nat.le_of_ble_eq_true rfl, Nat.le_of_ble_eq_true rfl⟩ rfl dX12_rounds_58 rfl (Nat.le_of_ble_eq_true rfl) (fun r58 σ58 h => ?_)
      refine nw_aload_n C dX12_rounds_61 rfl 0 rfl ?_
      refine nw_get (v := .ref (am 94)) C in_X12 0 ml_O rfl 94 (by decide) tw_1667 rfl mf_94 dX12_rounds_62 ?_
      refine nw_iload C dX12_rounds_65 5 rfl ?_
      refine nw_iald C 65 ml_94 dX12_rounds_67 h (fun h => ?_)
      refine nw_aload_n C dX12_rounds_68 rfl 0 rfl ?_
      refine nw_get (v := .ref (am 90)) C in_X12 0 ml_O rfl 90 (by decide) tw_1663 rfl mf_90 dX12_rounds_69 ?_
      refine nw_iload_n C dX12_rounds_72 rfl 2 rfl ?_
      refine nw_iald C 62 ml_90 dX12_rounds_73 h (fun h => ?_)
      refine nw_isub C dX12_rounds_74 ?_
      refine nm_callSI  (As := [.int ((rd σ58 94 x5) - (rd σ58 90 x2))]) (rest := [.int r58]) C h (fun _ _ e => c_M_size e) tw_2006 ks_X12_size ⟨Nat.le_of_ble_eq_true rfl, Nat.le_of_ble_eq_true rfl⟩ rfl dX12_rounds_75 rfl (Nat.le_of_ble_eq_true rfl) (fun r75 σ75 h => ?_)
      refine nw_iadd C dX12_rounds_78 ?_
      refine nw_istore (lv' := [(6, .int (r58 + r75)), (0, .ref (am 112)), (1, .int x1), (2, .int x2), (3, .int x3), (4, .int x4), (5, .int x5)]) C dX12_rounds_79 (by decide) rfl ?_
      refine nw_ldcw (v := 1000000000) C tw_2359 dX12_rounds_81 ?_
      refine nw_istore (lv' := [(7, .int 1000000000), (6, .int (r58 + r75)), (0, .ref (am 112)), (1, .int x1), (2, .int x2), (3, .int x3), (4, .int x4), (5, .int x5)]) C dX12_rounds_84 (by decide) rfl ?_
      refine nw_iload_n C dX12_rounds_86 rfl 5 rfl ?_
      refine nw_iload C dX12_rounds_87 7 rfl ?_
      refine nw_ishr C dX12_rounds_89 ?_
      refine nw_iconst (v := 1) C dX12_rounds_90 (by decide) ?_
      refine nw_iand C dX12_rounds_91 ?_
      refine nw_iconst (v := 1) C dX12_rounds_92 (by decide) ?_
      refine nw_icmp_ne (tgt := 241) C dX12_rounds_93 (by decide) h (fun _ h => ?_) (fun _ h => ?_)
      · refine nw_iload_n C dX12_rounds_96 rfl 5 rfl ?_
        refine nw_iconst (v := 1) C dX12_rounds_97 (by decide) ?_
        refine nw_iload C dX12_rounds_98 7 rfl ?_
        refine nw_ishl C dX12_rounds_100 ?_
        refine nw_ixor C dX12_rounds_101 ?_
        refine nw_istore (lv' := [(8, .int (x3 ^^^ ((1 : Int32) <<< (x5 &&& 31)))), (7, .int 1000000000), (6, .int (r58 + r75)), (0, .ref (am 112)), (1, .int x1), (2, .int x2), (3, .int x3), (4, .int x4), (5, .int x5)]) C dX12_rounds_102 (by decide) rfl ?_
        refine nw_iload C dX12_rounds_104 0 rfl ?_
        refine nw_if_ne (tgt := 114) C dX12_rounds_106 (by decide) h (fun _ h => ?_) (fun _ h => ?_)
        · refine nw_iload C dX12_rounds_109 2 rfl ?_
          refine nw_goto (tgt := 117) C dX12_rounds_111 (by decide) ?_
          refine nw_istore (lv' := [(7, .int (r58 + r75)), (8, .int (x3 ^^^ ((1 : Int32) <<< (x5 &&& 31)))), (6, .int (r58 + r75)), (0, .ref (am 112)), (1, .int x1), (2, .int x2), (3, .int x3), (4, .int x4), (5, .int x5)]) C dX12_rounds_117 (by decide) rfl ?_
          refine nw_iconst (v := 0) C dX12_rounds_119 (by decide) ?_
          refine nw_istore (lv' := [(9, .int 0), (7, .int (r58 + r75)), (8, .int (x3 ^^^ ((1 : Int32) <<< (x5 &&& 31)))), (6, .int (r58 + r75)), (0, .ref (am 112)), (1, .int x1), (2, .int x2), (3, .int x3), (4, .int x4), (5, .int x5)]) C dX12_rounds_120 (by decide) rfl ?_
          exact nw_lv (lv' := [(0, .ref (am 112)), (1, .int x1), (2, .int x2), (3, .int x3), (4, .int x4), (5, .int x5), (6, .int (r58 + r75)), (7, .int (r58 + r75)), (8, .int (x3 ^^^ ((1 : Int32) <<< (x5 &&& 31)))), (9, .int 0)]) [4, 5, 6, 7, 8, 9, 3, 1, 2, 0] rfl (w_M_rounds_122 C hr x1 x2 x3 x4 x5 (r58 + r75) (x3 ^^^ ((1 : Int32) <<< (x5 &&& 31))) (fun x4_ x5_ x6_ x7_ σ_ h_ => w_M_rounds_219 C hr x1 x2 x3 x4_ x5_ x6_ x7_ ih σ_ h_) FU (r58 + r75) 0 _ h)
        · refine nw_ldcw (v := 1000000000) C tw_2359 dX12_rounds_114 ?_
          refine nw_istore (lv' := [(7, .int 1000000000), (8, .int (x3 ^^^ ((1 : Int32) <<< (x5 &&& 31)))), (6, .int (r58 + r75)), (0, .ref (am 112)), (1, .int x1), (2, .int x2), (3, .int x3), (4, .int x4), (5, .int x5)]) C dX12_rounds_117 (by decide) rfl ?_
          refine nw_iconst (v := 0) C dX12_rounds_119 (by decide) ?_
          refine nw_istore (lv' := [(9, .int 0), (7, .int 1000000000), (8, .int (x3 ^^^ ((1 : Int32) <<< (x5 &&& 31)))), (6, .int (r58 + r75)), (0, .ref (am 112)), (1, .int x1), (2, .int x2), (3, .int x3), (4, .int x4), (5, .int x5)]) C dX12_rounds_120 (by decide) rfl ?_
          exact nw_lv (lv' := [(0, .ref (am 112)), (1, .int x1), (2, .int x2), (3, .int x3), (4, .int x4), (5, .int x5), (6, .int (r58 + r75)), (7, .int 1000000000), (8, .int (x3 ^^^ ((1 : Int32) <<< (x5 &&& 31)))), (9, .int 0)]) [4, 5, 6, 7, 8, 9, 3, 1, 2, 0] rfl (w_M_rounds_122 C hr x1 x2 x3 x4 x5 (r58 + r75) (x3 ^^^ ((1 : Int32) <<< (x5 &&& 31))) (fun x4_ x5_ x6_ x7_ σ_ h_ => w_M_rounds_219 C hr x1 x2 x3 x4_ x5_ x6_ x7_ ih σ_ h_) FU 1000000000 0 _ h)
      · exact nw_lv (lv' := [(0, .ref (am 112)), (1, .int x1), (2, .int x2), (3, .int x3), (4, .int x4), (5, .int x5), (7, .int 1000000000)]) [2, 3, 4, 5, 6, 7, 0] rfl (w_M_rounds_241 C hr x1 x2 x3 x4 x5 1000000000 ih _ h)
def B_M_rounds_288 (k9 : Int32 → CS → Option (Int32 × CS)) (x1 : Int32) (x2 : Int32) (x3 : Int32) (z1 : Int32) (z2 : Int32) (σ : CS) : Option (Int32 × CS) := gix z1 512 (k9 (x3 + 1) (wr σ 97 z1 (vp_nar .boolean z2)))
set_option maxHeartbeats 4000000 in
set_option maxRecDepth 100000 in
theorem w_M_rounds_288 (C : Cx g p s m args meth c A 11 cX12_rounds yX12_rounds.cls) (hr : meth.sig.returnType = none)  {res : Int32 × CS}  (x1 : Int32) (x2 : Int32) (x3 : Int32) (z1 : Int32) (z2 : Int32) {k9 : Int32 → CS → Option (Int32 × CS)} (hk9 : ∀ (x3 : Int32) (σ : CS), k9 x3 σ = some res → NMV g p l e s m args below meth c A 1 20 11 am Rr res σ [(0, .ref (am 112)), (1, .int x1), (2, .int x2), (3, .int x3)] 9 []) (σ : CS) (h : B_M_rounds_288 k9 x1 x2 x3 z1 z2 σ = some res) : NMV g p l e s m args below meth c A 1 20 11 am Rr res σ [(0, .ref (am 112)), (1, .int x1), (2, .int x2), (3, .int x3)] 288 [.int z2, .int z1, .ref (am 97)] := by
  unfold B_M_rounds_288 at h
  refine nw_zast C 68 ml_97 dX12_rounds_288 h ms_97 (fun h => ?_)
  refine nw_iinc (lv' := [(3, .int (x3 + 1)), (0, .ref (am 112)), (1, .int x1), (2, .int x2)]) C (x3 + 1) dX12_rounds_289 3 rfl rfl (by decide) rfl ?_
  refine nw_goto (tgt := 9) C dX12_rounds_292 (by decide) ?_
  exact nw_lv (lv' := [(0, .ref (am 112)), (1, .int x1), (2, .int x2), (3, .int (x3 + 1))]) [1, 2, 3, 0] rfl (hk9 (x3 + 1) _ h)
def B_M_rounds_261 (k9 : Int32 → CS → Option (Int32 × CS)) (x1 : Int32) (x2 : Int32) (x3 : Int32) (x4 : Int32) (σ : CS) : Option (Int32 × CS) := gix x2 6 (if (rd σ 91 x2) < x4 then B_M_rounds_288 k9 x1 x2 x3 ((256 * x1) + x3) 0 σ else B_M_rounds_288 k9 x1 x2 x3 ((256 * x1) + x3) 1 σ)
set_option maxHeartbeats 4000000 in
set_option maxRecDepth 100000 in
theorem w_M_rounds_261 (C : Cx g p s m args meth c A 11 cX12_rounds yX12_rounds.cls) (hr : meth.sig.returnType = none)  {res : Int32 × CS}  (x1 : Int32) (x2 : Int32) (x3 : Int32) (x4 : Int32) {k9 : Int32 → CS → Option (Int32 × CS)} (hk9 : ∀ (x3 : Int32) (σ : CS), k9 x3 σ = some res → NMV g p l e s m args below meth c A 1 20 11 am Rr res σ [(0, .ref (am 112)), (1, .int x1), (2, .int x2), (3, .int x3)] 9 []) (σ : CS) (h : B_M_rounds_261 k9 x1 x2 x3 x4 σ = some res) : NMV g p l e s m args below meth c A 1 20 11 am Rr res σ [(0, .ref (am 112)), (1, .int x1), (2, .int x2), (3, .int x3), (4, .int x4)] 261 [] := by
  unfold B_M_rounds_261 at h
  refine nw_aload_n C dX12_rounds_261 rfl 0 rfl ?_
  refine nw_get (v := .ref (am 97)) C in_X12 0 ml_O rfl 97 (by decide) tw_1670 rfl mf_97 dX12_rounds_262 ?_
  refine nw_sipush (v := 256) C dX12_rounds_265 (by decide) ?_
  refine nw_iload_n C dX12_rounds_268 rfl 1 rfl ?_
  refine nw_imul C dX12_rounds_269 ?_
  refine nw_iload_n C dX12_rounds_270 rfl 3 rfl ?_
  refine nw_iadd C dX12_rounds_271 ?_
  refine nw_iload C dX12_rounds_272 4 rfl ?_
  refine nw_aload_n C dX12_rounds_274 rfl 0 rfl ?_
  refine nw_get (v := .ref (am 91)) C in_X12 0 ml_O rfl 91 (by decide) tw_1664 rfl mf_91 dX12_rounds_275 ?_
  refine nw_iload_n C dX12_rounds_278 rfl 2 rfl ?_
  refine nw_iald C 63 ml_91 dX12_rounds_279 h (fun h => ?_)
  refine nw_icmp_gt (tgt := 287) C dX12_rounds_280 (by decide) h (fun _ h => ?_) (fun _ h => ?_)
  · refine nw_iconst (v := 0) C dX12_rounds_287 (by decide) ?_
    exact nw_lv (lv' := [(0, .ref (am 112)), (1, .int x1), (2, .int x2), (3, .int x3)]) [0, 1, 2, 3] rfl (w_M_rounds_288 C hr x1 x2 x3 ((256 * x1) + x3) 0 hk9 _ h)
  · refine nw_iconst (v := 1) C dX12_rounds_283 (by decide) ?_
    refine nw_goto (tgt := 288) C dX12_rounds_284 (by decide) ?_
    exact nw_lv (lv' := [(0, .ref (am 112)), (1, .int x1), (2, .int x2), (3, .int x3)]) [0, 1, 2, 3] rfl (w_M_rounds_288 C hr x1 x2 x3 ((256 * x1) + x3) 1 hk9 _ h)
def L_M_rounds_9  (x1 : Int32) (x2 : Int32) : Nat → Int32 → CS → Option (Int32 × CS)
  | 0, _, _ => none
  | n + 1, x3, σ => if ((1 : Int32) <<< ((σ.1 92) &&& 31)) ≤ x3 then some (0, σ) else if x3 = 0 then L_M_rounds_35 (B_M_rounds_261 (L_M_rounds_9 x1 x2 n) x1 x2) x1 x2 x3 FU 0 0 σ else L_M_rounds_35 (B_M_rounds_261 (L_M_rounds_9 x1 x2 n) x1 x2) x1 x2 x3 FU 1000000000 0 σ
set_option maxHeartbeats 4000000 in
set_option maxRecDepth 100000 in
theorem w_M_rounds_9 (C : Cx g p s m args meth c A 11 cX12_rounds yX12_rounds.cls) (hr : meth.sig.returnType = none)  {res : Int32 × CS}  (x1 : Int32) (x2 : Int32)  : ∀ (n : Nat) (x3 : Int32) (σ : CS), L_M_rounds_9 x1 x2 n x3 σ = some res → NMV g p l e s m args below meth c A 1 20 11 am Rr res σ [(0, .ref (am 112)), (1, .int x1), (2, .int x2), (3, .int x3)] 9 [] := by
  intro n
  induction n with
  | zero =>
    intro x3 σ h
    exact absurd (show (none : Option (Int32 × CS)) = some res from h) (by intro h9; cases h9)
  | succ n ih =>
    intro x3 σ h
    rw [L_M_rounds_9] at h
    refine nw_iload_n C dX12_rounds_9 rfl 3 rfl ?_
    refine nw_iconst (v := 1) C dX12_rounds_10 (by decide) ?_
    refine nw_aload_n C dX12_rounds_11 rfl 0 rfl ?_
    refine nw_get (v := .int (σ.1 92)) C in_X12 0 ml_O rfl 92 (by decide) tw_1665 rfl mf_92 dX12_rounds_12 ?_
    refine nw_ishl C dX12_rounds_15 ?_
    refine nw_icmp_ge (tgt := 295) C dX12_rounds_16 (by decide) h (fun _ h => ?_) (fun _ h => ?_)
    · exact nm_vret C hr dX12_rounds_295 h
    · refine nw_iload_n C dX12_rounds_19 rfl 3 rfl ?_
      refine nw_if_ne (tgt := 27) C dX12_rounds_20 (by decide) h (fun _ h => ?_) (fun _ h => ?_)
      · refine nw_iconst (v := 0) C dX12_rounds_23 (by decide) ?_
        refine nw_goto (tgt := 30) C dX12_rounds_24 (by decide) ?_
        refine nw_istore (lv' := [(4, .int 0), (0, .ref (am 112)), (1, .int x1), (2, .int x2), (3, .int x3)]) C dX12_rounds_30 (by decide) rfl ?_
        refine nw_iconst (v := 0) C dX12_rounds_32 (by decide) ?_
        refine nw_istore (lv' := [(5, .int 0), (4, .int 0), (0, .ref (am 112)), (1, .int x1), (2, .int x2), (3, .int x3)]) C dX12_rounds_33 (by decide) rfl ?_
        exact nw_lv (lv' := [(0, .ref (am 112)), (1, .int x1), (2, .int x2), (3, .int x3), (4, .int 0), (5, .int 0)]) [2, 3, 4, 5, 1, 0] rfl (w_M_rounds_35 C hr x1 x2 x3 (fun x3_ x4_ σ_ h_ => w_M_rounds_261 C hr x1 x2 x3_ x4_ ih σ_ h_) FU 0 0 _ h)
      · refine nw_ldcw (v := 1000000000) C tw_2359 dX12_rounds_27 ?_
        refine nw_istore (lv' := [(4, .int 1000000000), (0, .ref (am 112)), (1, .int x1), (2, .int x2), (3, .int x3)]) C dX12_rounds_30 (by decide) rfl ?_
        refine nw_iconst (v := 0) C dX12_rounds_32 (by decide) ?_
        refine nw_istore (lv' := [(5, .int 0), (4, .int 1000000000), (0, .ref (am 112)), (1, .int x1), (2, .int x2), (3, .int x3)]) C dX12_rounds_33 (by decide) rfl ?_
        exact nw_lv (lv' := [(0, .ref (am 112)), (1, .int x1), (2, .int x2), (3, .int x3), (4, .int 1000000000), (5, .int 0)]) [2, 3, 4, 5, 1, 0] rfl (w_M_rounds_35 C hr x1 x2 x3 (fun x3_ x4_ σ_ h_ => w_M_rounds_261 C hr x1 x2 x3_ x4_ ih σ_ h_) FU 1000000000 0 _ h)
def f_M_rounds (p0 : Int32) (σ : CS) : Option (Int32 × CS) := gix p0 2 (L_M_rounds_9 p0 (rd σ 98 p0) FU 0 σ)
set_option maxHeartbeats 4000000 in
set_option maxRecDepth 100000 in
theorem c_M_rounds {l : Launch} {g : EG} {am : Nat → Nat} {Rr : va_W} {σ σ' : CS} {r : Int32} {p0 : Int32}  (h : f_M_rounds p0 σ = some (r, σ')) : CmV l g yX12_rounds (.code yX12_rounds cX12_rounds 11 none) 1 20 am Rr σ [.ref (am 112), .int p0] r σ' := by
  refine Ct.of rfl (by decide) (Nat.le_of_ble_eq_true rfl) ?_
  intro p e s m args below meth c A C hr
  show NMV g p l e s m args below meth c A 1 20 11 am Rr (r, σ') σ [(0, .ref (am 112)), (1, .int p0)] 0 []
  unfold f_M_rounds at h
  refine nw_aload_n C dX12_rounds_0 rfl 0 rfl ?_
  refine nw_get (v := .ref (am 98)) C in_X12 0 ml_O rfl 98 (by decide) tw_1671 rfl mf_98 dX12_rounds_1 ?_
  refine nw_iload_n C dX12_rounds_4 rfl 1 rfl ?_
  refine nw_iald C 69 ml_98 dX12_rounds_5 h (fun h => ?_)
  refine nw_istore_n (lv' := [(2, .int (rd σ 98 p0)), (0, .ref (am 112)), (1, .int p0)]) C dX12_rounds_6 rfl (by decide) rfl ?_
  refine nw_iconst (v := 0) C dX12_rounds_7 (by decide) ?_
  refine nw_istore_n (lv' := [(3, .int 0), (2, .int (rd σ 98 p0)), (0, .ref (am 112)), (1, .int p0)]) C dX12_rounds_8 rfl (by decide) rfl ?_
  exact nw_lv (lv' := [(0, .ref (am 112)), (1, .int p0), (2, .int (rd σ 98 p0)), (3, .int 0)]) [2, 3, 1, 0] rfl (w_M_rounds_9 C hr p0 (rd σ 98 p0) FU 0 _ h)
end
