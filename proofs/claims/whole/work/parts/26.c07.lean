section
variable {g : EG} {p : Program} {l : Launch} {e : Env} {s : State} {m : MethodId} {args : Array Value} {below : List Frame} {meth : Method} {c : Code} {A : Nat → Prop} {ad am ta : Nat → Nat} {Rr : va_W} {φ0 : Nat}
theorem dX3_keepRule_0 : decode cX3_keepRule 0 = .ok (.aload_n 0, 1) := by decide +kernel
theorem dX3_keepRule_1 : decode cX3_keepRule 1 = .ok (.getfield 22, 3) := by decide +kernel
theorem dX3_keepRule_4 : decode cX3_keepRule 4 = .ok (.iload_n 2, 1) := by decide +kernel
theorem dX3_keepRule_5 : decode cX3_keepRule 5 = .ok (.bipush 6, 2) := by decide +kernel
theorem dX3_keepRule_7 : decode cX3_keepRule 7 = .ok (.invokevirtual 86, 3) := by decide +kernel
theorem dX3_keepRule_10 : decode cX3_keepRule 10 = .ok (.istore_n 3, 1) := by decide +kernel
theorem dX3_keepRule_11 : decode cX3_keepRule 11 = .ok (.aload_n 0, 1) := by decide +kernel
theorem dX3_keepRule_12 : decode cX3_keepRule 12 = .ok (.getfield 22, 3) := by decide +kernel
theorem dX3_keepRule_15 : decode cX3_keepRule 15 = .ok (.iload_n 2, 1) := by decide +kernel
theorem dX3_keepRule_16 : decode cX3_keepRule 16 = .ok (.iconst 2, 1) := by decide +kernel
theorem dX3_keepRule_17 : decode cX3_keepRule 17 = .ok (.invokevirtual 86, 3) := by decide +kernel
theorem dX3_keepRule_20 : decode cX3_keepRule 20 = .ok (.tableswitch 127 4 7 #[32, 113, 57, 100], 32) := by decide +kernel
theorem dX3_keepRule_52 : decode cX3_keepRule 52 = .ok (.aload_n 0, 1) := by decide +kernel
theorem dX3_keepRule_53 : decode cX3_keepRule 53 = .ok (.getfield 16, 3) := by decide +kernel
theorem dX3_keepRule_56 : decode cX3_keepRule 56 = .ok (.iload_n 1, 1) := by decide +kernel
theorem dX3_keepRule_57 : decode cX3_keepRule 57 = .ok (.iconst 1, 1) := by decide +kernel
theorem dX3_keepRule_58 : decode cX3_keepRule 58 = .ok (.aload_n 0, 1) := by decide +kernel
theorem dX3_keepRule_59 : decode cX3_keepRule 59 = .ok (.getfield 16, 3) := by decide +kernel
theorem dX3_keepRule_62 : decode cX3_keepRule 62 = .ok (.iload_n 1, 1) := by decide +kernel
theorem dX3_keepRule_63 : decode cX3_keepRule 63 = .ok (.iconst 1, 1) := by decide +kernel
theorem dX3_keepRule_64 : decode cX3_keepRule 64 = .ok (.invokevirtual 86, 3) := by decide +kernel
theorem dX3_keepRule_67 : decode cX3_keepRule 67 = .ok (.iconst 1, 1) := by decide +kernel
theorem dX3_keepRule_68 : decode cX3_keepRule 68 = .ok (.iload_n 3, 1) := by decide +kernel
theorem dX3_keepRule_69 : decode cX3_keepRule 69 = .ok (.ishl, 1) := by decide +kernel
theorem dX3_keepRule_70 : decode cX3_keepRule 70 = .ok (.ior, 1) := by decide +kernel
theorem dX3_keepRule_71 : decode cX3_keepRule 71 = .ok (.invokevirtual 79, 3) := by decide +kernel
theorem dX3_keepRule_74 : decode cX3_keepRule 74 = .ok (.goto 73, 3) := by decide +kernel
theorem dX3_keepRule_77 : decode cX3_keepRule 77 = .ok (.iconst 0, 1) := by decide +kernel
theorem dX3_keepRule_78 : decode cX3_keepRule 78 = .ok (.istore 4, 2) := by decide +kernel
theorem dX3_keepRule_80 : decode cX3_keepRule 80 = .ok (.iload 4, 2) := by decide +kernel
theorem dX3_keepRule_82 : decode cX3_keepRule 82 = .ok (.iconst 3, 1) := by decide +kernel
theorem dX3_keepRule_83 : decode cX3_keepRule 83 = .ok (.if_icmp .ge 34, 3) := by decide +kernel
theorem dX3_keepRule_86 : decode cX3_keepRule 86 = .ok (.aload_n 0, 1) := by decide +kernel
theorem dX3_keepRule_87 : decode cX3_keepRule 87 = .ok (.getfield 16, 3) := by decide +kernel
theorem dX3_keepRule_90 : decode cX3_keepRule 90 = .ok (.iload_n 1, 1) := by decide +kernel
theorem dX3_keepRule_91 : decode cX3_keepRule 91 = .ok (.iconst 2, 1) := by decide +kernel
theorem dX3_keepRule_92 : decode cX3_keepRule 92 = .ok (.iload 4, 2) := by decide +kernel
theorem dX3_keepRule_94 : decode cX3_keepRule 94 = .ok (.iadd, 1) := by decide +kernel
theorem dX3_keepRule_95 : decode cX3_keepRule 95 = .ok (.aload_n 0, 1) := by decide +kernel
theorem dX3_keepRule_96 : decode cX3_keepRule 96 = .ok (.getfield 22, 3) := by decide +kernel
theorem dX3_keepRule_99 : decode cX3_keepRule 99 = .ok (.iload_n 2, 1) := by decide +kernel
theorem dX3_keepRule_100 : decode cX3_keepRule 100 = .ok (.bipush 6, 2) := by decide +kernel
theorem dX3_keepRule_102 : decode cX3_keepRule 102 = .ok (.iload 4, 2) := by decide +kernel
theorem dX3_keepRule_104 : decode cX3_keepRule 104 = .ok (.iadd, 1) := by decide +kernel
theorem dX3_keepRule_105 : decode cX3_keepRule 105 = .ok (.invokevirtual 86, 3) := by decide +kernel
theorem dX3_keepRule_108 : decode cX3_keepRule 108 = .ok (.invokevirtual 79, 3) := by decide +kernel
theorem dX3_keepRule_111 : decode cX3_keepRule 111 = .ok (.iinc 4 1, 3) := by decide +kernel
theorem dX3_keepRule_114 : decode cX3_keepRule 114 = .ok (.goto (-34), 3) := by decide +kernel
theorem dX3_keepRule_117 : decode cX3_keepRule 117 = .ok (.goto 30, 3) := by decide +kernel
theorem dX3_keepRule_120 : decode cX3_keepRule 120 = .ok (.aload_n 0, 1) := by decide +kernel
theorem dX3_keepRule_121 : decode cX3_keepRule 121 = .ok (.getfield 16, 3) := by decide +kernel
theorem dX3_keepRule_124 : decode cX3_keepRule 124 = .ok (.iload_n 1, 1) := by decide +kernel
theorem dX3_keepRule_125 : decode cX3_keepRule 125 = .ok (.iconst 5, 1) := by decide +kernel
theorem dX3_keepRule_126 : decode cX3_keepRule 126 = .ok (.iload_n 3, 1) := by decide +kernel
theorem dX3_keepRule_127 : decode cX3_keepRule 127 = .ok (.invokevirtual 79, 3) := by decide +kernel
theorem dX3_keepRule_130 : decode cX3_keepRule 130 = .ok (.goto 17, 3) := by decide +kernel
theorem dX3_keepRule_133 : decode cX3_keepRule 133 = .ok (.aload_n 0, 1) := by decide +kernel
theorem dX3_keepRule_134 : decode cX3_keepRule 134 = .ok (.getfield 16, 3) := by decide +kernel
theorem dX3_keepRule_137 : decode cX3_keepRule 137 = .ok (.iload_n 1, 1) := by decide +kernel
theorem dX3_keepRule_138 : decode cX3_keepRule 138 = .ok (.bipush 6, 2) := by decide +kernel
theorem dX3_keepRule_140 : decode cX3_keepRule 140 = .ok (.iload_n 3, 1) := by decide +kernel
theorem dX3_keepRule_141 : decode cX3_keepRule 141 = .ok (.invokevirtual 79, 3) := by decide +kernel
theorem dX3_keepRule_144 : decode cX3_keepRule 144 = .ok (.goto 3, 3) := by decide +kernel
theorem dX3_keepRule_147 : decode cX3_keepRule 147 = .ok (.return_, 1) := by decide +kernel
def L_Laws_keepRule_80  (x1 : Int32) (x2 : Int32) : Nat → Int32 → CS → Option (Int32 × CS)
  | 0, _, _ => none
  | n + 1, x4, σ => if 3 ≤ x4 then some (0, σ) else bnd (f_Table_get 4 x2 (6 + x4) σ) (fun r105 σ105 => bnd (f_Table_put 3 x1 (2 + x4) r105 σ105) (fun _ σ108 => (L_Laws_keepRule_80 x1 x2 n) (x4 + 1) σ108))
set_option maxHeartbeats 4000000 in
set_option maxRecDepth 100000 in
theorem w_Laws_keepRule_80 (C : Cx g p s m args meth c A 5 cX3_keepRule yX3_keepRule.cls) (hr : meth.sig.returnType = none)  {res : Int32 × CS}  (x1 : Int32) (x2 : Int32)  : ∀ (n : Nat) (x4 : Int32) (σ : CS) (ta : Nat → Nat), φ0 ≤ ph σ.2.2 → ph σ.2.2 ≤ BB → L_Laws_keepRule_80 x1 x2 n x4 σ = some res → NV g p l e s m args below meth c A 1 24 5 ad Rr φ0 res ta σ [(0, .ref (ad 3)), (1, .int x1), (2, .int x2), (4, .int x4)] 80 [] := by
  intro n
  induction n with
  | zero =>
    intro x4 σ ta hφ hφ2 h
    exact absurd (show (none : Option (Int32 × CS)) = some res from h) (by intro h9; cases h9)
  | succ n ih =>
    intro x4 σ ta hφ hφ2 h
    rw [L_Laws_keepRule_80] at h
    refine nw_iload C dX3_keepRule_80 3 rfl ?_
    refine nw_iconst (v := 3) C dX3_keepRule_82 (by decide) ?_
    refine nw_icmp_ge (tgt := 117) C dX3_keepRule_83 (by decide) h (fun _ h => ?_) (fun _ h => ?_)
    · refine nw_goto (tgt := 147) C dX3_keepRule_117 (by decide) ?_
      exact nc_vret C hr dX3_keepRule_147 hφ hφ2 h
    · refine nw_aload_n C dX3_keepRule_86 rfl 0 rfl ?_
      refine nw_get (v := .ref (ad 14)) C in_X3 3 cl_Laws rfl 0 (by decide) tw_276 rfl rfl dX3_keepRule_87 ?_
      refine nw_iload_n C dX3_keepRule_90 rfl 1 rfl ?_
      refine nw_iconst (v := 2) C dX3_keepRule_91 (by decide) ?_
      refine nw_iload C dX3_keepRule_92 3 rfl ?_
      refine nw_iadd C dX3_keepRule_94 ?_
      refine nw_aload_n C dX3_keepRule_95 rfl 0 rfl ?_
      refine nw_get (v := .ref (ad 15)) C in_X3 3 cl_Laws rfl 1 (by decide) tw_279 rfl rfl dX3_keepRule_96 ?_
      refine nw_iload_n C dX3_keepRule_99 rfl 2 rfl ?_
      refine nw_bipush (v := 6) C dX3_keepRule_100 (by decide) ?_
      refine nw_iload C dX3_keepRule_102 3 rfl ?_
      refine nw_iadd C dX3_keepRule_104 ?_
      refine nc_callVI (q0 := 15) (As := [.int x2, .int (6 + x4)]) (rest := [.int (2 + x4), .int x1, .ref (ad 14)]) C h (fun _ _ e => c_Table_get 4 (by decide) e hφ2) tw_789 kv_X9_get (cl_T 4 (by decide)) rfl ⟨Nat.le_of_ble_eq_true rfl, Nat.le_of_ble_eq_true rfl⟩ rfl dX3_keepRule_105 rfl (Nat.le_of_ble_eq_true rfl) hφ hφ2 (fun r105 σ105 ta h hφ hφ2 => ?_)
      refine nc_callVV (q0 := 14) (As := [.int x1, .int (2 + x4), .int r105]) (rest := []) C h (fun _ _ e => c_Table_put 3 (by decide) e hφ2) tw_1240 kv_X9_put (cl_T 3 (by decide)) rfl ⟨Nat.le_of_ble_eq_true rfl, Nat.le_of_ble_eq_true rfl⟩ rfl dX3_keepRule_108 rfl (Nat.le_of_ble_eq_true rfl) hφ hφ2 (fun r108 σ108 ta h hφ hφ2 => ?_)
      refine nw_iinc (lv' := [(4, .int (x4 + 1)), (0, .ref (ad 3)), (1, .int x1), (2, .int x2)]) C (x4 + 1) dX3_keepRule_111 3 rfl rfl (by decide) rfl ?_
      refine nw_goto (tgt := 80) C dX3_keepRule_114 (by decide) ?_
      exact nw_lv (lv' := [(0, .ref (ad 3)), (1, .int x1), (2, .int x2), (4, .int (x4 + 1))]) [1, 2, 3, 0] rfl (ih (x4 + 1) _ _ hφ hφ2 h)
def f_Laws_keepRule (p0 : Int32) (p1 : Int32) (σ : CS) : Option (Int32 × CS) := bnd (f_Table_get 4 p1 6 σ) (fun r7 σ7 => bnd (f_Table_get 4 p1 2 σ7) (fun r17 σ17 => if r17 = 4 then bnd (f_Table_get 3 p0 1 σ17) (fun r64 σ64 => bnd (f_Table_put 3 p0 1 (r64 ||| ((1 : Int32) <<< (r7 &&& 31))) σ64) (fun _ σ71 => some (0, σ71))) else if r17 = 5 then bnd (f_Table_put 3 p0 6 r7 σ17) (fun _ σ141 => some (0, σ141)) else if r17 = 6 then L_Laws_keepRule_80 p0 p1 FU 0 σ17 else if r17 = 7 then bnd (f_Table_put 3 p0 5 r7 σ17) (fun _ σ127 => some (0, σ127)) else some (0, σ17)))
set_option maxHeartbeats 4000000 in
set_option maxRecDepth 100000 in
theorem c_Laws_keepRule {l : Launch} {g : EG} {ad ta : Nat → Nat} {Rr : va_W} {σ σ' : CS} {r : Int32} {p0 : Int32} {p1 : Int32}  (h : f_Laws_keepRule p0 p1 σ = some (r, σ')) (hφ2 : ph σ.2.2 ≤ BB) : CtV l g yX3_keepRule (.code yX3_keepRule cX3_keepRule 5 none) 1 24 ad ta Rr σ [.ref (ad 3), .int p0, .int p1] r σ' := by
  refine Ct.of rfl (by decide) (Nat.le_of_ble_eq_true rfl) ?_
  intro p e s m args below meth c A C hr
  have hφ : ph σ.2.2 ≤ ph σ.2.2 := Nat.le_refl _
  refine nw_zero (ph σ.2.2) ?_
  show NV g p l e s m args below meth c A 1 24 5 ad Rr (ph σ.2.2) (r, σ') ta σ [(0, .ref (ad 3)), (1, .int p0), (2, .int p1)] 0 []
  unfold f_Laws_keepRule at h
  refine nw_aload_n C dX3_keepRule_0 rfl 0 rfl ?_
  refine nw_get (v := .ref (ad 15)) C in_X3 3 cl_Laws rfl 1 (by decide) tw_279 rfl rfl dX3_keepRule_1 ?_
  refine nw_iload_n C dX3_keepRule_4 rfl 2 rfl ?_
  refine nw_bipush (v := 6) C dX3_keepRule_5 (by decide) ?_
  refine nc_callVI (q0 := 15) (As := [.int p1, .int 6]) (rest := []) C h (fun _ _ e => c_Table_get 4 (by decide) e hφ2) tw_789 kv_X9_get (cl_T 4 (by decide)) rfl ⟨Nat.le_of_ble_eq_true rfl, Nat.le_of_ble_eq_true rfl⟩ rfl dX3_keepRule_7 rfl (Nat.le_of_ble_eq_true rfl) hφ hφ2 (fun r7 σ7 ta h hφ hφ2 => ?_)
  refine nw_istore_n (lv' := [(3, .int r7), (0, .ref (ad 3)), (1, .int p0), (2, .int p1)]) C dX3_keepRule_10 rfl (by decide) rfl ?_
  refine nw_aload_n C dX3_keepRule_11 rfl 1 rfl ?_
  refine nw_get (v := .ref (ad 15)) C in_X3 3 cl_Laws rfl 1 (by decide) tw_279 rfl rfl dX3_keepRule_12 ?_
  refine nw_iload_n C dX3_keepRule_15 rfl 3 rfl ?_
  refine nw_iconst (v := 2) C dX3_keepRule_16 (by decide) ?_
  refine nc_callVI (q0 := 15) (As := [.int p1, .int 2]) (rest := []) C h (fun _ _ e => c_Table_get 4 (by decide) e hφ2) tw_789 kv_X9_get (cl_T 4 (by decide)) rfl ⟨Nat.le_of_ble_eq_true rfl, Nat.le_of_ble_eq_true rfl⟩ rfl dX3_keepRule_17 rfl (Nat.le_of_ble_eq_true rfl) hφ hφ2 (fun r17 σ17 ta h hφ hφ2 => ?_)
  refine nw_tsCase (tgt := 52) C 4 dX3_keepRule_20 (by decide) (by decide) rfl (by decide) h (fun _ h => ?_) (fun hc4 h => ?_)
  · refine nw_aload_n C dX3_keepRule_52 rfl 1 rfl ?_
    refine nw_get (v := .ref (ad 14)) C in_X3 3 cl_Laws rfl 0 (by decide) tw_276 rfl rfl dX3_keepRule_53 ?_
    refine nw_iload_n C dX3_keepRule_56 rfl 2 rfl ?_
    refine nw_iconst (v := 1) C dX3_keepRule_57 (by decide) ?_
    refine nw_aload_n C dX3_keepRule_58 rfl 1 rfl ?_
    refine nw_get (v := .ref (ad 14)) C in_X3 3 cl_Laws rfl 0 (by decide) tw_276 rfl rfl dX3_keepRule_59 ?_
    refine nw_iload_n C dX3_keepRule_62 rfl 2 rfl ?_
    refine nw_iconst (v := 1) C dX3_keepRule_63 (by decide) ?_
    refine nc_callVI (q0 := 14) (As := [.int p0, .int 1]) (rest := [.int 1, .int p0, .ref (ad 14)]) C h (fun _ _ e => c_Table_get 3 (by decide) e hφ2) tw_789 kv_X9_get (cl_T 3 (by decide)) rfl ⟨Nat.le_of_ble_eq_true rfl, Nat.le_of_ble_eq_true rfl⟩ rfl dX3_keepRule_64 rfl (Nat.le_of_ble_eq_true rfl) hφ hφ2 (fun r64 σ64 ta h hφ hφ2 => ?_)
    refine nw_iconst (v := 1) C dX3_keepRule_67 (by decide) ?_
    refine nw_iload_n C dX3_keepRule_68 rfl 0 rfl ?_
    refine nw_ishl C dX3_keepRule_69 ?_
    refine nw_ior C dX3_keepRule_70 ?_
    refine nc_callVV (q0 := 14) (As := [.int p0, .int 1, .int (r64 ||| ((1 : Int32) <<< (r7 &&& 31)))]) (rest := []) C h (fun _ _ e => c_Table_put 3 (by decide) e hφ2) tw_1240 kv_X9_put (cl_T 3 (by decide)) rfl ⟨Nat.le_of_ble_eq_true rfl, Nat.le_of_ble_eq_true rfl⟩ rfl dX3_keepRule_71 rfl (Nat.le_of_ble_eq_true rfl) hφ hφ2 (fun r71 σ71 ta h hφ hφ2 => ?_)
    refine nw_goto (tgt := 147) C dX3_keepRule_74 (by decide) ?_
    exact nc_vret C hr dX3_keepRule_147 hφ hφ2 h
  · refine nw_tsCase (tgt := 133) C 5 dX3_keepRule_20 (by decide) (by decide) rfl (by decide) h (fun _ h => ?_) (fun hc5 h => ?_)
    · refine nw_aload_n C dX3_keepRule_133 rfl 1 rfl ?_
      refine nw_get (v := .ref (ad 14)) C in_X3 3 cl_Laws rfl 0 (by decide) tw_276 rfl rfl dX3_keepRule_134 ?_
      refine nw_iload_n C dX3_keepRule_137 rfl 2 rfl ?_
      refine nw_bipush (v := 6) C dX3_keepRule_138 (by decide) ?_
      refine nw_iload_n C dX3_keepRule_140 rfl 0 rfl ?_
      refine nc_callVV (q0 := 14) (As := [.int p0, .int 6, .int r7]) (rest := []) C h (fun _ _ e => c_Table_put 3 (by decide) e hφ2) tw_1240 kv_X9_put (cl_T 3 (by decide)) rfl ⟨Nat.le_of_ble_eq_true rfl, Nat.le_of_ble_eq_true rfl⟩ rfl dX3_keepRule_141 rfl (Nat.le_of_ble_eq_true rfl) hφ hφ2 (fun r141 σ141 ta h hφ hφ2 => ?_)
      refine nw_goto (tgt := 147) C dX3_keepRule_144 (by decide) ?_
      exact nc_vret C hr dX3_keepRule_147 hφ hφ2 h
    · refine nw_tsCase (tgt := 77) C 6 dX3_keepRule_20 (by decide) (by decide) rfl (by decide) h (fun _ h => ?_) (fun hc6 h => ?_)
      · refine nw_iconst (v := 0) C dX3_keepRule_77 (by decide) ?_
        refine nw_istore (lv' := [(4, .int 0), (3, .int r7), (0, .ref (ad 3)), (1, .int p0), (2, .int p1)]) C dX3_keepRule_78 (by decide) rfl ?_
        exact nw_lv (lv' := [(0, .ref (ad 3)), (1, .int p0), (2, .int p1), (4, .int 0)]) [2, 3, 4, 0] rfl (w_Laws_keepRule_80 C hr p0 p1 FU 0 _ _ hφ hφ2 h)
      · refine nw_tsCase (tgt := 120) C 7 dX3_keepRule_20 (by decide) (by decide) rfl (by decide) h (fun _ h => ?_) (fun hc7 h => ?_)
        · refine nw_aload_n C dX3_keepRule_120 rfl 1 rfl ?_
          refine nw_get (v := .ref (ad 14)) C in_X3 3 cl_Laws rfl 0 (by decide) tw_276 rfl rfl dX3_keepRule_121 ?_
          refine nw_iload_n C dX3_keepRule_124 rfl 2 rfl ?_
          refine nw_iconst (v := 5) C dX3_keepRule_125 (by decide) ?_
          refine nw_iload_n C dX3_keepRule_126 rfl 0 rfl ?_
          refine nc_callVV (q0 := 14) (As := [.int p0, .int 5, .int r7]) (rest := []) C h (fun _ _ e => c_Table_put 3 (by decide) e hφ2) tw_1240 kv_X9_put (cl_T 3 (by decide)) rfl ⟨Nat.le_of_ble_eq_true rfl, Nat.le_of_ble_eq_true rfl⟩ rfl dX3_keepRule_127 rfl (Nat.le_of_ble_eq_true rfl) hφ hφ2 (fun r127 σ127 ta h hφ hφ2 => ?_)
          refine nw_goto (tgt := 147) C dX3_keepRule_130 (by decide) ?_
          exact nc_vret C hr dX3_keepRule_147 hφ hφ2 h
        · refine nw_tsOut (tgt := 147) C dX3_keepRule_20 (by have q4 := lv_neT hc4 (a := 4) (by decide); have q5 := lv_neT hc5 (a := 5) (by decide); have q6 := lv_neT hc6 (a := 6) (by decide); have q7 := lv_neT hc7 (a := 7) (by decide); omega) (by decide) ?_
          exact nc_vret C hr dX3_keepRule_147 hφ hφ2 h
theorem dX3_addText_0 : decode cX3_addText 0 = .ok (.aload_n 0, 1) := by decide +kernel
theorem dX3_addText_1 : decode cX3_addText 1 = .ok (.iconst (-1), 1) := by decide +kernel
theorem dX3_addText_2 : decode cX3_addText 2 = .ok (.putfield 39, 3) := by decide +kernel
theorem dX3_addText_5 : decode cX3_addText 5 = .ok (.aload_n 0, 1) := by decide +kernel
theorem dX3_addText_6 : decode cX3_addText 6 = .ok (.getfield 16, 3) := by decide +kernel
theorem dX3_addText_9 : decode cX3_addText 9 = .ok (.invokevirtual 49, 3) := by decide +kernel
theorem dX3_addText_12 : decode cX3_addText 12 = .ok (.ifCond .eq 5, 3) := by decide +kernel
theorem dX3_addText_15 : decode cX3_addText 15 = .ok (.iconst (-1), 1) := by decide +kernel
theorem dX3_addText_16 : decode cX3_addText 16 = .ok (.ireturn, 1) := by decide +kernel
theorem dX3_addText_17 : decode cX3_addText 17 = .ok (.aload_n 0, 1) := by decide +kernel
theorem dX3_addText_18 : decode cX3_addText 18 = .ok (.getfield 22, 3) := by decide +kernel
theorem dX3_addText_21 : decode cX3_addText 21 = .ok (.invokevirtual 53, 3) := by decide +kernel
theorem dX3_addText_24 : decode cX3_addText 24 = .ok (.istore_n 2, 1) := by decide +kernel
theorem dX3_addText_25 : decode cX3_addText 25 = .ok (.aload_n 0, 1) := by decide +kernel
theorem dX3_addText_26 : decode cX3_addText 26 = .ok (.getfield 25, 3) := by decide +kernel
theorem dX3_addText_29 : decode cX3_addText 29 = .ok (.invokevirtual 53, 3) := by decide +kernel
theorem dX3_addText_32 : decode cX3_addText 32 = .ok (.istore_n 3, 1) := by decide +kernel
theorem dX3_addText_33 : decode cX3_addText 33 = .ok (.aload_n 0, 1) := by decide +kernel
theorem dX3_addText_34 : decode cX3_addText 34 = .ok (.getfield 31, 3) := by decide +kernel
theorem dX3_addText_37 : decode cX3_addText 37 = .ok (.aload_n 0, 1) := by decide +kernel
theorem dX3_addText_38 : decode cX3_addText 38 = .ok (.getfield 16, 3) := by decide +kernel
theorem dX3_addText_41 : decode cX3_addText 41 = .ok (.invokevirtual 53, 3) := by decide +kernel
theorem dX3_addText_44 : decode cX3_addText 44 = .ok (.invokevirtual 57, 3) := by decide +kernel
theorem dX3_addText_47 : decode cX3_addText 47 = .ok (.iconst 0, 1) := by decide +kernel
theorem dX3_addText_48 : decode cX3_addText 48 = .ok (.istore 4, 2) := by decide +kernel
theorem dX3_addText_50 : decode cX3_addText 50 = .ok (.iload 4, 2) := by decide +kernel
theorem dX3_addText_52 : decode cX3_addText 52 = .ok (.bipush 12, 2) := by decide +kernel
theorem dX3_addText_54 : decode cX3_addText 54 = .ok (.if_icmp .gt 28, 3) := by decide +kernel
theorem dX3_addText_57 : decode cX3_addText 57 = .ok (.aload_n 0, 1) := by decide +kernel
theorem dX3_addText_58 : decode cX3_addText 58 = .ok (.getfield 31, 3) := by decide +kernel
theorem dX3_addText_61 : decode cX3_addText 61 = .ok (.invokevirtual 61, 3) := by decide +kernel
theorem dX3_addText_64 : decode cX3_addText 64 = .ok (.ifCond .eq 18, 3) := by decide +kernel
theorem dX3_addText_67 : decode cX3_addText 67 = .ok (.aload_n 0, 1) := by decide +kernel
theorem dX3_addText_68 : decode cX3_addText 68 = .ok (.getfield 31, 3) := by decide +kernel
theorem dX3_addText_71 : decode cX3_addText 71 = .ok (.iload 4, 2) := by decide +kernel
theorem dX3_addText_73 : decode cX3_addText 73 = .ok (.invokevirtual 64, 3) := by decide +kernel
theorem dX3_addText_76 : decode cX3_addText 76 = .ok (.iinc 4 1, 3) := by decide +kernel
theorem dX3_addText_79 : decode cX3_addText 79 = .ok (.goto (-29), 3) := by decide +kernel
theorem dX3_addText_82 : decode cX3_addText 82 = .ok (.aload_n 0, 1) := by decide +kernel
theorem dX3_addText_83 : decode cX3_addText 83 = .ok (.getfield 31, 3) := by decide +kernel
theorem dX3_addText_86 : decode cX3_addText 86 = .ok (.getfield 67, 3) := by decide +kernel
theorem dX3_addText_89 : decode cX3_addText 89 = .ok (.ifCond .eq 41, 3) := by decide +kernel
theorem dX3_addText_92 : decode cX3_addText 92 = .ok (.aload_n 0, 1) := by decide +kernel
theorem dX3_addText_93 : decode cX3_addText 93 = .ok (.aload_n 0, 1) := by decide +kernel
theorem dX3_addText_94 : decode cX3_addText 94 = .ok (.getfield 31, 3) := by decide +kernel
theorem dX3_addText_97 : decode cX3_addText 97 = .ok (.getfield 70, 3) := by decide +kernel
theorem dX3_addText_100 : decode cX3_addText 100 = .ok (.putfield 39, 3) := by decide +kernel
theorem dX3_addText_103 : decode cX3_addText 103 = .ok (.aload_n 0, 1) := by decide +kernel
theorem dX3_addText_104 : decode cX3_addText 104 = .ok (.getfield 22, 3) := by decide +kernel
theorem dX3_addText_107 : decode cX3_addText 107 = .ok (.iload_n 2, 1) := by decide +kernel
theorem dX3_addText_108 : decode cX3_addText 108 = .ok (.invokevirtual 73, 3) := by decide +kernel
theorem dX3_addText_111 : decode cX3_addText 111 = .ok (.aload_n 0, 1) := by decide +kernel
theorem dX3_addText_112 : decode cX3_addText 112 = .ok (.getfield 25, 3) := by decide +kernel
theorem dX3_addText_115 : decode cX3_addText 115 = .ok (.iload_n 3, 1) := by decide +kernel
theorem dX3_addText_116 : decode cX3_addText 116 = .ok (.invokevirtual 73, 3) := by decide +kernel
theorem dX3_addText_119 : decode cX3_addText 119 = .ok (.aload_n 0, 1) := by decide +kernel
theorem dX3_addText_120 : decode cX3_addText 120 = .ok (.getfield 31, 3) := by decide +kernel
theorem dX3_addText_123 : decode cX3_addText 123 = .ok (.getfield 67, 3) := by decide +kernel
theorem dX3_addText_126 : decode cX3_addText 126 = .ok (.bipush 10, 2) := by decide +kernel
theorem dX3_addText_128 : decode cX3_addText 128 = .ok (.isub, 1) := by decide +kernel
theorem dX3_addText_129 : decode cX3_addText 129 = .ok (.ireturn, 1) := by decide +kernel
theorem dX3_addText_130 : decode cX3_addText 130 = .ok (.aload_n 0, 1) := by decide +kernel
theorem dX3_addText_131 : decode cX3_addText 131 = .ok (.getfield 16, 3) := by decide +kernel
theorem dX3_addText_134 : decode cX3_addText 134 = .ok (.invokevirtual 76, 3) := by decide +kernel
theorem dX3_addText_137 : decode cX3_addText 137 = .ok (.istore 4, 2) := by decide +kernel
theorem dX3_addText_139 : decode cX3_addText 139 = .ok (.aload_n 0, 1) := by decide +kernel
theorem dX3_addText_140 : decode cX3_addText 140 = .ok (.getfield 16, 3) := by decide +kernel
theorem dX3_addText_143 : decode cX3_addText 143 = .ok (.iload 4, 2) := by decide +kernel
theorem dX3_addText_145 : decode cX3_addText 145 = .ok (.iconst 0, 1) := by decide +kernel
theorem dX3_addText_146 : decode cX3_addText 146 = .ok (.iload_n 1, 1) := by decide +kernel
theorem dX3_addText_147 : decode cX3_addText 147 = .ok (.invokevirtual 79, 3) := by decide +kernel
theorem dX3_addText_150 : decode cX3_addText 150 = .ok (.aload_n 0, 1) := by decide +kernel
theorem dX3_addText_151 : decode cX3_addText 151 = .ok (.getfield 16, 3) := by decide +kernel
theorem dX3_addText_154 : decode cX3_addText 154 = .ok (.iload 4, 2) := by decide +kernel
theorem dX3_addText_156 : decode cX3_addText 156 = .ok (.iconst 1, 1) := by decide +kernel
theorem dX3_addText_157 : decode cX3_addText 157 = .ok (.iconst 0, 1) := by decide +kernel
theorem dX3_addText_158 : decode cX3_addText 158 = .ok (.invokevirtual 79, 3) := by decide +kernel
theorem dX3_addText_161 : decode cX3_addText 161 = .ok (.iload_n 2, 1) := by decide +kernel
theorem dX3_addText_162 : decode cX3_addText 162 = .ok (.istore 5, 2) := by decide +kernel
theorem dX3_addText_164 : decode cX3_addText 164 = .ok (.iload 5, 2) := by decide +kernel
theorem dX3_addText_166 : decode cX3_addText 166 = .ok (.aload_n 0, 1) := by decide +kernel
theorem dX3_addText_167 : decode cX3_addText 167 = .ok (.getfield 22, 3) := by decide +kernel
theorem dX3_addText_170 : decode cX3_addText 170 = .ok (.invokevirtual 53, 3) := by decide +kernel
theorem dX3_addText_173 : decode cX3_addText 173 = .ok (.if_icmp .ge 17, 3) := by decide +kernel
theorem dX3_addText_176 : decode cX3_addText 176 = .ok (.aload_n 0, 1) := by decide +kernel
theorem dX3_addText_177 : decode cX3_addText 177 = .ok (.iload 4, 2) := by decide +kernel
theorem dX3_addText_179 : decode cX3_addText 179 = .ok (.iload 5, 2) := by decide +kernel
theorem dX3_addText_181 : decode cX3_addText 181 = .ok (.invokevirtual 83, 3) := by decide +kernel
theorem dX3_addText_184 : decode cX3_addText 184 = .ok (.iinc 5 1, 3) := by decide +kernel
theorem dX3_addText_187 : decode cX3_addText 187 = .ok (.goto (-23), 3) := by decide +kernel
theorem dX3_addText_190 : decode cX3_addText 190 = .ok (.iload 4, 2) := by decide +kernel
theorem dX3_addText_192 : decode cX3_addText 192 = .ok (.ireturn, 1) := by decide +kernel
def L_Laws_addText_50 (k82 : Int32 → Int32 → Int32 → CS → Option (Int32 × CS)) (x1 : Int32) (x2 : Int32) (x3 : Int32) : Nat → Int32 → CS → Option (Int32 × CS)
  | 0, _, _ => none
  | n + 1, x4, σ => if 12 < x4 then k82 x1 x2 x3 σ else bnd (f_Reader_goesOn σ) (fun r61 σ61 => if r61 = 0 then k82 x1 x2 x3 σ61 else bnd (f_Reader_readClause x4 σ61) (fun _ σ73 => (L_Laws_addText_50 k82 x1 x2 x3 n) (x4 + 1) σ73))
set_option maxHeartbeats 4000000 in
set_option maxRecDepth 100000 in
theorem w_Laws_addText_50 (C : Cx g p s m args meth c A 6 cX3_addText yX3_addText.cls) (hr : meth.sig.returnType = (some .int))  {res : Int32 × CS}  (x1 : Int32) (x2 : Int32) (x3 : Int32) {k82 : Int32 → Int32 → Int32 → CS → Option (Int32 × CS)} (hk82 : ∀ (x1 : Int32) (x2 : Int32) (x3 : Int32) (σ : CS) (ta : Nat → Nat), φ0 ≤ ph σ.2.2 → ph σ.2.2 ≤ BB → k82 x1 x2 x3 σ = some res → NI g p l e s m args below meth c A 1002 40048 6 ad Rr φ0 res ta σ [(0, .ref (ad 3)), (1, .int x1), (2, .int x2), (3, .int x3)] 82 []) : ∀ (n : Nat) (x4 : Int32) (σ : CS) (ta : Nat → Nat), φ0 ≤ ph σ.2.2 → ph σ.2.2 ≤ BB → L_Laws_addText_50 k82 x1 x2 x3 n x4 σ = some res → NI g p l e s m args below meth c A 1002 40048 6 ad Rr φ0 res ta σ [(0, .ref (ad 3)), (1, .int x1), (2, .int x2), (3, .int x3), (4, .int x4)] 50 [] := by
  intro n
  induction n with
  | zero =>
    intro x4 σ ta hφ hφ2 h
    exact absurd (show (none : Option (Int32 × CS)) = some res from h) (by intro h9; cases h9)
  | succ n ih =>
    intro x4 σ ta hφ hφ2 h
    rw [L_Laws_addText_50] at h
    refine nw_iload C dX3_addText_50 4 rfl ?_
    refine nw_bipush (v := 12) C dX3_addText_52 (by decide) ?_
    refine nw_icmp_gt (tgt := 82) C dX3_addText_54 (by decide) h (fun _ h => ?_) (fun _ h => ?_)
    · exact nw_lv (lv' := [(0, .ref (ad 3)), (1, .int x1), (2, .int x2), (3, .int x3)]) [0, 1, 2, 3] rfl (hk82 x1 x2 x3 _ _ hφ hφ2 h)
    · refine nw_aload_n C dX3_addText_57 rfl 0 rfl ?_
      refine nw_get (v := .ref (ad 4)) C in_X3 3 cl_Laws rfl 3 (by decide) tw_281 rfl rfl dX3_addText_58 ?_
      refine nc_callVI (q0 := 4) (As := []) (rest := []) C h (fun _ _ e => c_Reader_goesOn e hφ2) tw_1082 kv_X6_goesOn cl_Reader rfl ⟨Nat.le_of_ble_eq_true rfl, Nat.le_of_ble_eq_true rfl⟩ rfl dX3_addText_61 rfl (Nat.le_of_ble_eq_true rfl) hφ hφ2 (fun r61 σ61 ta h hφ hφ2 => ?_)
      refine nw_if_eq (tgt := 82) C dX3_addText_64 (by decide) h (fun _ h => ?_) (fun _ h => ?_)
      · exact nw_lv (lv' := [(0, .ref (ad 3)), (1, .int x1), (2, .int x2), (3, .int x3)]) [0, 1, 2, 3] rfl (hk82 x1 x2 x3 _ _ hφ hφ2 h)
      · refine nw_aload_n C dX3_addText_67 rfl 0 rfl ?_
        refine nw_get (v := .ref (ad 4)) C in_X3 3 cl_Laws rfl 3 (by decide) tw_281 rfl rfl dX3_addText_68 ?_
        refine nw_iload C dX3_addText_71 4 rfl ?_
        refine nc_callVV (q0 := 4) (As := [.int x4]) (rest := []) C h (fun _ _ e => c_Reader_readClause e hφ2) tw_1091 kv_X6_readClause cl_Reader rfl ⟨Nat.le_of_ble_eq_true rfl, Nat.le_of_ble_eq_true rfl⟩ rfl dX3_addText_73 rfl (Nat.le_of_ble_eq_true rfl) hφ hφ2 (fun r73 σ73 ta h hφ hφ2 => ?_)
        refine nw_iinc (lv' := [(4, .int (x4 + 1)), (0, .ref (ad 3)), (1, .int x1), (2, .int x2), (3, .int x3)]) C (x4 + 1) dX3_addText_76 4 rfl rfl (by decide) rfl ?_
        refine nw_goto (tgt := 50) C dX3_addText_79 (by decide) ?_
        exact nw_lv (lv' := [(0, .ref (ad 3)), (1, .int x1), (2, .int x2), (3, .int x3), (4, .int (x4 + 1))]) [1, 2, 3, 4, 0] rfl (ih (x4 + 1) _ _ hφ hφ2 h)
def L_Laws_addText_164  (x4 : Int32) : Nat → Int32 → CS → Option (Int32 × CS)
  | 0, _, _ => none
  | n + 1, x5, σ => bnd (f_Table_size 4 σ) (fun r170 σ170 => if r170 ≤ x5 then some (x4, σ170) else bnd (f_Laws_keepRule x4 x5 σ170) (fun _ σ181 => (L_Laws_addText_164 x4 n) (x5 + 1) σ181))
set_option maxHeartbeats 4000000 in
set_option maxRecDepth 100000 in
theorem w_Laws_addText_164 (C : Cx g p s m args meth c A 6 cX3_addText yX3_addText.cls) (hr : meth.sig.returnType = (some .int))  {res : Int32 × CS}  (x4 : Int32)  : ∀ (n : Nat) (x5 : Int32) (σ : CS) (ta : Nat → Nat), φ0 ≤ ph σ.2.2 → ph σ.2.2 ≤ BB → L_Laws_addText_164 x4 n x5 σ = some res → NI g p l e s m args below meth c A 1002 40048 6 ad Rr φ0 res ta σ [(0, .ref (ad 3)), (4, .int x4), (5, .int x5)] 164 [] := by
  intro n
  induction n with
  | zero =>
    intro x5 σ ta hφ hφ2 h
    exact absurd (show (none : Option (Int32 × CS)) = some res from h) (by intro h9; cases h9)
  | succ n ih =>
    intro x5 σ ta hφ hφ2 h
    rw [L_Laws_addText_164] at h
    refine nw_iload C dX3_addText_164 2 rfl ?_
    refine nw_aload_n C dX3_addText_166 rfl 0 rfl ?_
    refine nw_get (v := .ref (ad 15)) C in_X3 3 cl_Laws rfl 1 (by decide) tw_279 rfl rfl dX3_addText_167 ?_
    refine nc_callVI (q0 := 15) (As := []) (rest := [.int x5]) C h (fun _ _ e => c_Table_size 4 (by decide) e hφ2) tw_788 kv_X9_size (cl_T 4 (by decide)) rfl ⟨Nat.le_of_ble_eq_true rfl, Nat.le_of_ble_eq_true rfl⟩ rfl dX3_addText_170 rfl (Nat.le_of_ble_eq_true rfl) hφ hφ2 (fun r170 σ170 ta h hφ hφ2 => ?_)
    refine nw_icmp_ge (tgt := 190) C dX3_addText_173 (by decide) h (fun _ h => ?_) (fun _ h => ?_)
    · refine nw_iload C dX3_addText_190 1 rfl ?_
      exact nc_iret C hr dX3_addText_192 hφ hφ2 h
    · refine nw_aload_n C dX3_addText_176 rfl 0 rfl ?_
      refine nw_iload C dX3_addText_177 1 rfl ?_
      refine nw_iload C dX3_addText_179 2 rfl ?_
      refine nc_callVV (q0 := 3) (As := [.int x4, .int x5]) (rest := []) C h (fun _ _ e => c_Laws_keepRule e hφ2) tw_1241 kv_X3_keepRule cl_Laws rfl ⟨Nat.le_of_ble_eq_true rfl, Nat.le_of_ble_eq_true rfl⟩ rfl dX3_addText_181 rfl (Nat.le_of_ble_eq_true rfl) hφ hφ2 (fun r181 σ181 ta h hφ hφ2 => ?_)
      refine nw_iinc (lv' := [(5, .int (x5 + 1)), (0, .ref (ad 3)), (4, .int x4)]) C (x5 + 1) dX3_addText_184 2 rfl rfl (by decide) rfl ?_
      refine nw_goto (tgt := 164) C dX3_addText_187 (by decide) ?_
      exact nw_lv (lv' := [(0, .ref (ad 3)), (4, .int x4), (5, .int (x5 + 1))]) [1, 2, 0] rfl (ih (x5 + 1) _ _ hφ hφ2 h)
def B_Laws_addText_82   (x1 : Int32) (x2 : Int32) (x3 : Int32) (σ : CS) : Option (Int32 × CS) := if (σ.1 58) = 0 then bnd (f_Table_add 3 σ) (fun r134 σ134 => bnd (f_Table_put 3 r134 0 x1 σ134) (fun _ σ147 => bnd (f_Table_put 3 r134 1 0 σ147) (fun _ σ158 => L_Laws_addText_164 r134 FU x2 σ158))) else bnd (f_Table_cut 4 x2 (sF σ 52 (σ.1 59))) (fun _ σ108 => bnd (f_Table_cut 5 x3 σ108) (fun _ σ116 => some (((σ116.1 58) - 10), σ116)))
set_option maxHeartbeats 4000000 in
set_option maxRecDepth 100000 in
theorem w_Laws_addText_82 (C : Cx g p s m args meth c A 6 cX3_addText yX3_addText.cls) (hr : meth.sig.returnType = (some .int))  {res : Int32 × CS}   (x1 : Int32) (x2 : Int32) (x3 : Int32)  (σ : CS) (ta : Nat → Nat) (hφ : φ0 ≤ ph σ.2.2) (hφ2 : ph σ.2.2 ≤ BB) (h : B_Laws_addText_82 x1 x2 x3 σ = some res) : NI g p l e s m args below meth c A 1002 40048 6 ad Rr φ0 res ta σ [(0, .ref (ad 3)), (1, .int x1), (2, .int x2), (3, .int x3)] 82 [] := by
  unfold B_Laws_addText_82 at h
  refine nw_aload_n C dX3_addText_82 rfl 0 rfl ?_
  refine nw_get (v := .ref (ad 4)) C in_X3 3 cl_Laws rfl 3 (by decide) tw_281 rfl rfl dX3_addText_83 ?_
  refine nw_getN (v := .int (σ.1 58)) C in_X6 4 cl_Reader rfl 6 (by decide) tw_256 rfl rfl dX3_addText_86 ?_
  refine nw_if_eq (tgt := 130) C dX3_addText_89 (by decide) h (fun _ h => ?_) (fun _ h => ?_)
  · refine nw_aload_n C dX3_addText_130 rfl 0 rfl ?_
    refine nw_get (v := .ref (ad 14)) C in_X3 3 cl_Laws rfl 0 (by decide) tw_276 rfl rfl dX3_addText_131 ?_
    refine nc_callVI (q0 := 14) (As := []) (rest := []) C h (fun _ _ e => c_Table_add 3 (by decide) e hφ2) tw_1239 kv_X9_add (cl_T 3 (by decide)) rfl ⟨Nat.le_of_ble_eq_true rfl, Nat.le_of_ble_eq_true rfl⟩ rfl dX3_addText_134 rfl (Nat.le_of_ble_eq_true rfl) hφ hφ2 (fun r134 σ134 ta h hφ hφ2 => ?_)
    refine nw_istore (lv' := [(4, .int r134), (0, .ref (ad 3)), (1, .int x1), (2, .int x2), (3, .int x3)]) C dX3_addText_137 (by decide) rfl ?_
    refine nw_aload_n C dX3_addText_139 rfl 1 rfl ?_
    refine nw_get (v := .ref (ad 14)) C in_X3 3 cl_Laws rfl 0 (by decide) tw_276 rfl rfl dX3_addText_140 ?_
    refine nw_iload C dX3_addText_143 0 rfl ?_
    refine nw_iconst (v := 0) C dX3_addText_145 (by decide) ?_
    refine nw_iload_n C dX3_addText_146 rfl 2 rfl ?_
    refine nc_callVV (q0 := 14) (As := [.int r134, .int 0, .int x1]) (rest := []) C h (fun _ _ e => c_Table_put 3 (by decide) e hφ2) tw_1240 kv_X9_put (cl_T 3 (by decide)) rfl ⟨Nat.le_of_ble_eq_true rfl, Nat.le_of_ble_eq_true rfl⟩ rfl dX3_addText_147 rfl (Nat.le_of_ble_eq_true rfl) hφ hφ2 (fun r147 σ147 ta h hφ hφ2 => ?_)
    refine nw_aload_n C dX3_addText_150 rfl 1 rfl ?_
    refine nw_get (v := .ref (ad 14)) C in_X3 3 cl_Laws rfl 0 (by decide) tw_276 rfl rfl dX3_addText_151 ?_
    refine nw_iload C dX3_addText_154 0 rfl ?_
    refine nw_iconst (v := 1) C dX3_addText_156 (by decide) ?_
    refine nw_iconst (v := 0) C dX3_addText_157 (by decide) ?_
    refine nc_callVV (q0 := 14) (As := [.int r134, .int 1, .int 0]) (rest := []) C h (fun _ _ e => c_Table_put 3 (by decide) e hφ2) tw_1240 kv_X9_put (cl_T 3 (by decide)) rfl ⟨Nat.le_of_ble_eq_true rfl, Nat.le_of_ble_eq_true rfl⟩ rfl dX3_addText_158 rfl (Nat.le_of_ble_eq_true rfl) hφ hφ2 (fun r158 σ158 ta h hφ hφ2 => ?_)
    refine nw_iload_n C dX3_addText_161 rfl 3 rfl ?_
    refine nw_istore (lv' := [(5, .int x2), (4, .int r134), (0, .ref (ad 3)), (1, .int x1), (2, .int x2), (3, .int x3)]) C dX3_addText_162 (by decide) rfl ?_
    exact nw_lv (lv' := [(0, .ref (ad 3)), (4, .int r134), (5, .int x2)]) [2, 1, 0] rfl (w_Laws_addText_164 C hr r134 FU x2 _ _ hφ hφ2 h)
  · refine nw_aload_n C dX3_addText_92 rfl 0 rfl ?_
    refine nw_aload_n C dX3_addText_93 rfl 0 rfl ?_
    refine nw_get (v := .ref (ad 4)) C in_X3 3 cl_Laws rfl 3 (by decide) tw_281 rfl rfl dX3_addText_94 ?_
    refine nw_getN (v := .int (σ.1 59)) C in_X6 4 cl_Reader rfl 7 (by decide) tw_258 rfl rfl dX3_addText_97 ?_
    refine nw_put (ty := .int) C in_X3 3 cl_Laws rfl 5 (by decide) tyX3 tyX3_ok nmX3 tw_283 rfl rfl (by decide +kernel) rfl rfl (Nat.le_of_ble_eq_true rfl) dX3_addText_100 cs_Laws_faultPlace ?_
    refine nw_aload_n C dX3_addText_103 rfl 0 rfl ?_
    refine nw_get (v := .ref (ad 15)) C in_X3 3 cl_Laws rfl 1 (by decide) tw_279 rfl rfl dX3_addText_104 ?_
    refine nw_iload_n C dX3_addText_107 rfl 2 rfl ?_
    refine nc_callVV (q0 := 15) (As := [.int x2]) (rest := []) C h (fun _ _ e => c_Table_cut 4 (by decide) e hφ2) tw_1238 kv_X9_cut (cl_T 4 (by decide)) rfl ⟨Nat.le_of_ble_eq_true rfl, Nat.le_of_ble_eq_true rfl⟩ rfl dX3_addText_108 rfl (Nat.le_of_ble_eq_true rfl) hφ hφ2 (fun r108 σ108 ta h hφ hφ2 => ?_)
    refine nw_aload_n C dX3_addText_111 rfl 0 rfl ?_
    refine nw_get (v := .ref (ad 16)) C in_X3 3 cl_Laws rfl 2 (by decide) tw_280 rfl rfl dX3_addText_112 ?_
    refine nw_iload_n C dX3_addText_115 rfl 3 rfl ?_
    refine nc_callVV (q0 := 16) (As := [.int x3]) (rest := []) C h (fun _ _ e => c_Table_cut 5 (by decide) e hφ2) tw_1238 kv_X9_cut (cl_T 5 (by decide)) rfl ⟨Nat.le_of_ble_eq_true rfl, Nat.le_of_ble_eq_true rfl⟩ rfl dX3_addText_116 rfl (Nat.le_of_ble_eq_true rfl) hφ hφ2 (fun r116 σ116 ta h hφ hφ2 => ?_)
    refine nw_aload_n C dX3_addText_119 rfl 0 rfl ?_
    refine nw_get (v := .ref (ad 4)) C in_X3 3 cl_Laws rfl 3 (by decide) tw_281 rfl rfl dX3_addText_120 ?_
    refine nw_getN (v := .int (σ116.1 58)) C in_X6 4 cl_Reader rfl 6 (by decide) tw_256 rfl rfl dX3_addText_123 ?_
    refine nw_bipush (v := 10) C dX3_addText_126 (by decide) ?_
    refine nw_isub C dX3_addText_128 ?_
    exact nc_iret C hr dX3_addText_129 hφ hφ2 h
def f_Laws_addText (p0 : Int32) (σ : CS) : Option (Int32 × CS) := bnd (f_Table_isFull 3 (sF σ 52 (-1))) (fun r9 σ9 => if r9 = 0 then bnd (f_Table_size 4 σ9) (fun r21 σ21 => bnd (f_Table_size 5 σ21) (fun r29 σ29 => bnd (f_Table_size 3 σ29) (fun r41 σ41 => bnd (f_Reader_begin r41 σ41) (fun _ σ44 => L_Laws_addText_50 (B_Laws_addText_82) p0 r21 r29 FU 0 σ44)))) else some ((-1), σ9))
set_option maxHeartbeats 4000000 in
set_option maxRecDepth 100000 in
theorem c_Laws_addText {l : Launch} {g : EG} {ad ta : Nat → Nat} {Rr : va_W} {σ σ' : CS} {r : Int32} {p0 : Int32}  (h : f_Laws_addText p0 σ = some (r, σ')) (hφ2 : ph σ.2.2 ≤ BB) : CtI l g yX3_addText (.code yX3_addText cX3_addText 6 (some .int)) 1002 40048 ad ta Rr σ [.ref (ad 3), .int p0] r σ' := by
  refine Ct.of rfl (by decide) (Nat.le_of_ble_eq_true rfl) ?_
  intro p e s m args below meth c A C hr
  have hφ : ph σ.2.2 ≤ ph σ.2.2 := Nat.le_refl _
  refine nw_zero (ph σ.2.2) ?_
  show NI g p l e s m args below meth c A 1002 40048 6 ad Rr (ph σ.2.2) (r, σ') ta σ [(0, .ref (ad 3)), (1, .int p0)] 0 []
  unfold f_Laws_addText at h
  refine nw_aload_n C dX3_addText_0 rfl 0 rfl ?_
  refine nw_iconst (v := (-1)) C dX3_addText_1 (by decide) ?_
  refine nw_put (ty := .int) C in_X3 3 cl_Laws rfl 5 (by decide) tyX3 tyX3_ok nmX3 tw_283 rfl rfl (by decide +kernel) rfl rfl (Nat.le_of_ble_eq_true rfl) dX3_addText_2 cs_Laws_faultPlace ?_
  refine nw_aload_n C dX3_addText_5 rfl 0 rfl ?_
  refine nw_get (v := .ref (ad 14)) C in_X3 3 cl_Laws rfl 0 (by decide) tw_276 rfl rfl dX3_addText_6 ?_
  refine nc_callVI (q0 := 14) (As := []) (rest := []) C h (fun _ _ e => c_Table_isFull 3 (by decide) e hφ2) tw_1076 kv_X9_isFull (cl_T 3 (by decide)) rfl ⟨Nat.le_of_ble_eq_true rfl, Nat.le_of_ble_eq_true rfl⟩ rfl dX3_addText_9 rfl (Nat.le_of_ble_eq_true rfl) hφ hφ2 (fun r9 σ9 ta h hφ hφ2 => ?_)
  refine nw_if_eq (tgt := 17) C dX3_addText_12 (by decide) h (fun _ h => ?_) (fun _ h => ?_)
  · refine nw_aload_n C dX3_addText_17 rfl 0 rfl ?_
    refine nw_get (v := .ref (ad 15)) C in_X3 3 cl_Laws rfl 1 (by decide) tw_279 rfl rfl dX3_addText_18 ?_
    refine nc_callVI (q0 := 15) (As := []) (rest := []) C h (fun _ _ e => c_Table_size 4 (by decide) e hφ2) tw_788 kv_X9_size (cl_T 4 (by decide)) rfl ⟨Nat.le_of_ble_eq_true rfl, Nat.le_of_ble_eq_true rfl⟩ rfl dX3_addText_21 rfl (Nat.le_of_ble_eq_true rfl) hφ hφ2 (fun r21 σ21 ta h hφ hφ2 => ?_)
    refine nw_istore_n (lv' := [(2, .int r21), (0, .ref (ad 3)), (1, .int p0)]) C dX3_addText_24 rfl (by decide) rfl ?_
    refine nw_aload_n C dX3_addText_25 rfl 1 rfl ?_
    refine nw_get (v := .ref (ad 16)) C in_X3 3 cl_Laws rfl 2 (by decide) tw_280 rfl rfl dX3_addText_26 ?_
    refine nc_callVI (q0 := 16) (As := []) (rest := []) C h (fun _ _ e => c_Table_size 5 (by decide) e hφ2) tw_788 kv_X9_size (cl_T 5 (by decide)) rfl ⟨Nat.le_of_ble_eq_true rfl, Nat.le_of_ble_eq_true rfl⟩ rfl dX3_addText_29 rfl (Nat.le_of_ble_eq_true rfl) hφ hφ2 (fun r29 σ29 ta h hφ hφ2 => ?_)
    refine nw_istore_n (lv' := [(3, .int r29), (2, .int r21), (0, .ref (ad 3)), (1, .int p0)]) C dX3_addText_32 rfl (by decide) rfl ?_
    refine nw_aload_n C dX3_addText_33 rfl 2 rfl ?_
    refine nw_get (v := .ref (ad 4)) C in_X3 3 cl_Laws rfl 3 (by decide) tw_281 rfl rfl dX3_addText_34 ?_
    refine nw_aload_n C dX3_addText_37 rfl 2 rfl ?_
    refine nw_get (v := .ref (ad 14)) C in_X3 3 cl_Laws rfl 0 (by decide) tw_276 rfl rfl dX3_addText_38 ?_
    refine nc_callVI (q0 := 14) (As := []) (rest := [.ref (ad 4)]) C h (fun _ _ e => c_Table_size 3 (by decide) e hφ2) tw_788 kv_X9_size (cl_T 3 (by decide)) rfl ⟨Nat.le_of_ble_eq_true rfl, Nat.le_of_ble_eq_true rfl⟩ rfl dX3_addText_41 rfl (Nat.le_of_ble_eq_true rfl) hφ hφ2 (fun r41 σ41 ta h hφ hφ2 => ?_)
    refine nc_callVV (q0 := 4) (As := [.int r41]) (rest := []) C h (fun _ _ e => c_Reader_begin e hφ2) tw_1077 kv_X6_begin cl_Reader rfl ⟨Nat.le_of_ble_eq_true rfl, Nat.le_of_ble_eq_true rfl⟩ rfl dX3_addText_44 rfl (Nat.le_of_ble_eq_true rfl) hφ hφ2 (fun r44 σ44 ta h hφ hφ2 => ?_)
    refine nw_iconst (v := 0) C dX3_addText_47 (by decide) ?_
    refine nw_istore (lv' := [(4, .int 0), (3, .int r29), (2, .int r21), (0, .ref (ad 3)), (1, .int p0)]) C dX3_addText_48 (by decide) rfl ?_
    exact nw_lv (lv' := [(0, .ref (ad 3)), (1, .int p0), (2, .int r21), (3, .int r29), (4, .int 0)]) [3, 4, 2, 1, 0] rfl (w_Laws_addText_50 C hr p0 r21 r29 (fun x1_ x2_ x3_ σ_ ta_ hφ_ hφ2_ h_ => w_Laws_addText_82 C hr x1_ x2_ x3_ σ_ ta_ hφ_ hφ2_ h_) FU 0 _ _ hφ hφ2 h)
  · refine nw_iconst (v := (-1)) C dX3_addText_15 (by decide) ?_
    exact nc_iret C hr dX3_addText_16 hφ hφ2 h
theorem dX3_wordNumber_0 : decode cX3_wordNumber 0 = .ok (.aload_n 0, 1) := by decide +kernel
theorem dX3_wordNumber_1 : decode cX3_wordNumber 1 = .ok (.getfield 43, 3) := by decide +kernel
theorem dX3_wordNumber_4 : decode cX3_wordNumber 4 = .ok (.iconst (-1), 1) := by decide +kernel
theorem dX3_wordNumber_5 : decode cX3_wordNumber 5 = .ok (.if_icmp .ne 7, 3) := by decide +kernel
theorem dX3_wordNumber_8 : decode cX3_wordNumber 8 = .ok (.iconst (-1), 1) := by decide +kernel
theorem dX3_wordNumber_9 : decode cX3_wordNumber 9 = .ok (.goto 31, 3) := by decide +kernel
theorem dX3_wordNumber_12 : decode cX3_wordNumber 12 = .ok (.bipush 100, 2) := by decide +kernel
theorem dX3_wordNumber_14 : decode cX3_wordNumber 14 = .ok (.aload_n 0, 1) := by decide +kernel
theorem dX3_wordNumber_15 : decode cX3_wordNumber 15 = .ok (.getfield 22, 3) := by decide +kernel
theorem dX3_wordNumber_18 : decode cX3_wordNumber 18 = .ok (.aload_n 0, 1) := by decide +kernel
theorem dX3_wordNumber_19 : decode cX3_wordNumber 19 = .ok (.getfield 43, 3) := by decide +kernel
theorem dX3_wordNumber_22 : decode cX3_wordNumber 22 = .ok (.iconst 0, 1) := by decide +kernel
theorem dX3_wordNumber_23 : decode cX3_wordNumber 23 = .ok (.invokevirtual 86, 3) := by decide +kernel
theorem dX3_wordNumber_26 : decode cX3_wordNumber 26 = .ok (.imul, 1) := by decide +kernel
theorem dX3_wordNumber_27 : decode cX3_wordNumber 27 = .ok (.aload_n 0, 1) := by decide +kernel
theorem dX3_wordNumber_28 : decode cX3_wordNumber 28 = .ok (.getfield 22, 3) := by decide +kernel
theorem dX3_wordNumber_31 : decode cX3_wordNumber 31 = .ok (.aload_n 0, 1) := by decide +kernel
theorem dX3_wordNumber_32 : decode cX3_wordNumber 32 = .ok (.getfield 43, 3) := by decide +kernel
theorem dX3_wordNumber_35 : decode cX3_wordNumber 35 = .ok (.iconst 1, 1) := by decide +kernel
theorem dX3_wordNumber_36 : decode cX3_wordNumber 36 = .ok (.invokevirtual 86, 3) := by decide +kernel
theorem dX3_wordNumber_39 : decode cX3_wordNumber 39 = .ok (.iadd, 1) := by decide +kernel
theorem dX3_wordNumber_40 : decode cX3_wordNumber 40 = .ok (.ireturn, 1) := by decide +kernel
def f_Laws_wordNumber  (σ : CS) : Option (Int32 × CS) := if (σ.1 53) = (-1) then some ((-1), σ) else bnd (f_Table_get 4 (σ.1 53) 0 σ) (fun r23 σ23 => bnd (f_Table_get 4 (σ23.1 53) 1 σ23) (fun r36 σ36 => some (((100 * r23) + r36), σ36)))
set_option maxHeartbeats 4000000 in
set_option maxRecDepth 100000 in
theorem c_Laws_wordNumber {l : Launch} {g : EG} {ad ta : Nat → Nat} {Rr : va_W} {σ σ' : CS} {r : Int32}   (h : f_Laws_wordNumber σ = some (r, σ')) (hφ2 : ph σ.2.2 ≤ BB) : CtI l g yX3_wordNumber (.code yX3_wordNumber cX3_wordNumber 1 (some .int)) 1 23 ad ta Rr σ [.ref (ad 3)] r σ' := by
  refine Ct.of rfl (by decide) (Nat.le_of_ble_eq_true rfl) ?_
  intro p e s m args below meth c A C hr
  have hφ : ph σ.2.2 ≤ ph σ.2.2 := Nat.le_refl _
  refine nw_zero (ph σ.2.2) ?_
  show NI g p l e s m args below meth c A 1 23 1 ad Rr (ph σ.2.2) (r, σ') ta σ [(0, .ref (ad 3))] 0 []
  unfold f_Laws_wordNumber at h
  refine nw_aload_n C dX3_wordNumber_0 rfl 0 rfl ?_
  refine nw_get (v := .int (σ.1 53)) C in_X3 3 cl_Laws rfl 6 (by decide) tw_285 rfl rfl dX3_wordNumber_1 ?_
  refine nw_iconst (v := (-1)) C dX3_wordNumber_4 (by decide) ?_
  refine nw_icmp_ne (tgt := 12) C dX3_wordNumber_5 (by decide) h (fun _ h => ?_) (fun _ h => ?_)
  · refine nw_iconst (v := (-1)) C dX3_wordNumber_8 (by decide) ?_
    refine nw_goto (tgt := 40) C dX3_wordNumber_9 (by decide) ?_
    exact nc_iret C hr dX3_wordNumber_40 hφ hφ2 h
  · refine nw_bipush (v := 100) C dX3_wordNumber_12 (by decide) ?_
    refine nw_aload_n C dX3_wordNumber_14 rfl 0 rfl ?_
    refine nw_get (v := .ref (ad 15)) C in_X3 3 cl_Laws rfl 1 (by decide) tw_279 rfl rfl dX3_wordNumber_15 ?_
    refine nw_aload_n C dX3_wordNumber_18 rfl 0 rfl ?_
    refine nw_get (v := .int (σ.1 53)) C in_X3 3 cl_Laws rfl 6 (by decide) tw_285 rfl rfl dX3_wordNumber_19 ?_
    refine nw_iconst (v := 0) C dX3_wordNumber_22 (by decide) ?_
    refine nc_callVI (q0 := 15) (As := [.int (σ.1 53), .int 0]) (rest := [.int 100]) C h (fun _ _ e => c_Table_get 4 (by decide) e hφ2) tw_789 kv_X9_get (cl_T 4 (by decide)) rfl ⟨Nat.le_of_ble_eq_true rfl, Nat.le_of_ble_eq_true rfl⟩ rfl dX3_wordNumber_23 rfl (Nat.le_of_ble_eq_true rfl) hφ hφ2 (fun r23 σ23 ta h hφ hφ2 => ?_)
    refine nw_imul C dX3_wordNumber_26 ?_
    refine nw_aload_n C dX3_wordNumber_27 rfl 0 rfl ?_
    refine nw_get (v := .ref (ad 15)) C in_X3 3 cl_Laws rfl 1 (by decide) tw_279 rfl rfl dX3_wordNumber_28 ?_
    refine nw_aload_n C dX3_wordNumber_31 rfl 0 rfl ?_
    refine nw_get (v := .int (σ23.1 53)) C in_X3 3 cl_Laws rfl 6 (by decide) tw_285 rfl rfl dX3_wordNumber_32 ?_
    refine nw_iconst (v := 1) C dX3_wordNumber_35 (by decide) ?_
    refine nc_callVI (q0 := 15) (As := [.int (σ23.1 53), .int 1]) (rest := [.int (100 * r23)]) C h (fun _ _ e => c_Table_get 4 (by decide) e hφ2) tw_789 kv_X9_get (cl_T 4 (by decide)) rfl ⟨Nat.le_of_ble_eq_true rfl, Nat.le_of_ble_eq_true rfl⟩ rfl dX3_wordNumber_36 rfl (Nat.le_of_ble_eq_true rfl) hφ hφ2 (fun r36 σ36 ta h hφ hφ2 => ?_)
    refine nw_iadd C dX3_wordNumber_39 ?_
    exact nc_iret C hr dX3_wordNumber_40 hφ hφ2 h
theorem dX4_setLodge_0 : decode cX4_setLodge 0 = .ok (.aload_n 0, 1) := by decide +kernel
theorem dX4_setLodge_1 : decode cX4_setLodge 1 = .ok (.getfield 11, 3) := by decide +kernel
theorem dX4_setLodge_4 : decode cX4_setLodge 4 = .ok (.iload_n 1, 1) := by decide +kernel
theorem dX4_setLodge_5 : decode cX4_setLodge 5 = .ok (.iconst 3, 1) := by decide +kernel
theorem dX4_setLodge_6 : decode cX4_setLodge 6 = .ok (.iload_n 2, 1) := by decide +kernel
theorem dX4_setLodge_7 : decode cX4_setLodge 7 = .ok (.invokevirtual 46, 3) := by decide +kernel
theorem dX4_setLodge_10 : decode cX4_setLodge 10 = .ok (.aload_n 0, 1) := by decide +kernel
theorem dX4_setLodge_11 : decode cX4_setLodge 11 = .ok (.getfield 11, 3) := by decide +kernel
theorem dX4_setLodge_14 : decode cX4_setLodge 14 = .ok (.iload_n 1, 1) := by decide +kernel
theorem dX4_setLodge_15 : decode cX4_setLodge 15 = .ok (.iconst 4, 1) := by decide +kernel
theorem dX4_setLodge_16 : decode cX4_setLodge 16 = .ok (.iload_n 3, 1) := by decide +kernel
theorem dX4_setLodge_17 : decode cX4_setLodge 17 = .ok (.invokevirtual 46, 3) := by decide +kernel
theorem dX4_setLodge_20 : decode cX4_setLodge 20 = .ok (.aload_n 0, 1) := by decide +kernel
theorem dX4_setLodge_21 : decode cX4_setLodge 21 = .ok (.getfield 11, 3) := by decide +kernel
theorem dX4_setLodge_24 : decode cX4_setLodge 24 = .ok (.iload_n 1, 1) := by decide +kernel
theorem dX4_setLodge_25 : decode cX4_setLodge 25 = .ok (.iconst 5, 1) := by decide +kernel
theorem dX4_setLodge_26 : decode cX4_setLodge 26 = .ok (.iload 4, 2) := by decide +kernel
theorem dX4_setLodge_28 : decode cX4_setLodge 28 = .ok (.invokevirtual 46, 3) := by decide +kernel
theorem dX4_setLodge_31 : decode cX4_setLodge 31 = .ok (.aload_n 0, 1) := by decide +kernel
theorem dX4_setLodge_32 : decode cX4_setLodge 32 = .ok (.iconst 1, 1) := by decide +kernel
theorem dX4_setLodge_33 : decode cX4_setLodge 33 = .ok (.putfield 40, 3) := by decide +kernel
theorem dX4_setLodge_36 : decode cX4_setLodge 36 = .ok (.return_, 1) := by decide +kernel
def f_Patrols_setLodge (p0 : Int32) (p1 : Int32) (p2 : Int32) (p3 : Int32) (σ : CS) : Option (Int32 × CS) := bnd (f_Table_put 9 p0 3 p1 σ) (fun _ σ7 => bnd (f_Table_put 9 p0 4 p2 σ7) (fun _ σ17 => bnd (f_Table_put 9 p0 5 p3 σ17) (fun _ σ28 => some (0, (sF σ28 68 1)))))
set_option maxHeartbeats 4000000 in
set_option maxRecDepth 100000 in
theorem c_Patrols_setLodge {l : Launch} {g : EG} {ad ta : Nat → Nat} {Rr : va_W} {σ σ' : CS} {r : Int32} {p0 : Int32} {p1 : Int32} {p2 : Int32} {p3 : Int32}  (h : f_Patrols_setLodge p0 p1 p2 p3 σ = some (r, σ')) (hφ2 : ph σ.2.2 ≤ BB) : CtV l g yX4_setLodge (.code yX4_setLodge cX4_setLodge 5 none) 1 24 ad ta Rr σ [.ref (ad 9), .int p0, .int p1, .int p2, .int p3] r σ' := by
  refine Ct.of rfl (by decide) (Nat.le_of_ble_eq_true rfl) ?_
  intro p e s m args below meth c A C hr
  have hφ : ph σ.2.2 ≤ ph σ.2.2 := Nat.le_refl _
  refine nw_zero (ph σ.2.2) ?_
  show NV g p l e s m args below meth c A 1 24 5 ad Rr (ph σ.2.2) (r, σ') ta σ [(0, .ref (ad 9)), (1, .int p0), (2, .int p1), (3, .int p2), (4, .int p3)] 0 []
  unfold f_Patrols_setLodge at h
  refine nw_aload_n C dX4_setLodge_0 rfl 0 rfl ?_
  refine nw_get (v := .ref (ad 20)) C in_X4 9 cl_Patrols rfl 0 (by decide) tw_462 rfl rfl dX4_setLodge_1 ?_
  refine nw_iload_n C dX4_setLodge_4 rfl 1 rfl ?_
  refine nw_iconst (v := 3) C dX4_setLodge_5 (by decide) ?_
  refine nw_iload_n C dX4_setLodge_6 rfl 2 rfl ?_
  refine nc_callVV (q0 := 20) (As := [.int p0, .int 3, .int p1]) (rest := []) C h (fun _ _ e => c_Table_put 9 (by decide) e hφ2) tw_1491 kv_X9_put (cl_T 9 (by decide)) rfl ⟨Nat.le_of_ble_eq_true rfl, Nat.le_of_ble_eq_true rfl⟩ rfl dX4_setLodge_7 rfl (Nat.le_of_ble_eq_true rfl) hφ hφ2 (fun r7 σ7 ta h hφ hφ2 => ?_)
  refine nw_aload_n C dX4_setLodge_10 rfl 0 rfl ?_
  refine nw_get (v := .ref (ad 20)) C in_X4 9 cl_Patrols rfl 0 (by decide) tw_462 rfl rfl dX4_setLodge_11 ?_
  refine nw_iload_n C dX4_setLodge_14 rfl 1 rfl ?_
  refine nw_iconst (v := 4) C dX4_setLodge_15 (by decide) ?_
  refine nw_iload_n C dX4_setLodge_16 rfl 3 rfl ?_
  refine nc_callVV (q0 := 20) (As := [.int p0, .int 4, .int p2]) (rest := []) C h (fun _ _ e => c_Table_put 9 (by decide) e hφ2) tw_1491 kv_X9_put (cl_T 9 (by decide)) rfl ⟨Nat.le_of_ble_eq_true rfl, Nat.le_of_ble_eq_true rfl⟩ rfl dX4_setLodge_17 rfl (Nat.le_of_ble_eq_true rfl) hφ hφ2 (fun r17 σ17 ta h hφ hφ2 => ?_)
  refine nw_aload_n C dX4_setLodge_20 rfl 0 rfl ?_
  refine nw_get (v := .ref (ad 20)) C in_X4 9 cl_Patrols rfl 0 (by decide) tw_462 rfl rfl dX4_setLodge_21 ?_
  refine nw_iload_n C dX4_setLodge_24 rfl 1 rfl ?_
  refine nw_iconst (v := 5) C dX4_setLodge_25 (by decide) ?_
  refine nw_iload C dX4_setLodge_26 4 rfl ?_
  refine nc_callVV (q0 := 20) (As := [.int p0, .int 5, .int p3]) (rest := []) C h (fun _ _ e => c_Table_put 9 (by decide) e hφ2) tw_1491 kv_X9_put (cl_T 9 (by decide)) rfl ⟨Nat.le_of_ble_eq_true rfl, Nat.le_of_ble_eq_true rfl⟩ rfl dX4_setLodge_28 rfl (Nat.le_of_ble_eq_true rfl) hφ hφ2 (fun r28 σ28 ta h hφ hφ2 => ?_)
  refine nw_aload_n C dX4_setLodge_31 rfl 0 rfl ?_
  refine nw_iconst (v := 1) C dX4_setLodge_32 (by decide) ?_
  refine nw_put (ty := .boolean) C in_X4 9 cl_Patrols rfl 8 (by decide) tyX4 tyX4_ok nmX4 tw_472 rfl rfl (by decide +kernel) (nar_b (Or.inr rfl)) (fit_b (Or.inr rfl)) (Nat.le_of_ble_eq_true rfl) dX4_setLodge_33 cs_Patrols_stale ?_
  exact nc_vret C hr dX4_setLodge_36 hφ hφ2 h
theorem dX4_addSpot_0 : decode cX4_addSpot 0 = .ok (.aload_n 0, 1) := by decide +kernel
theorem dX4_addSpot_1 : decode cX4_addSpot 1 = .ok (.getfield 20, 3) := by decide +kernel
theorem dX4_addSpot_4 : decode cX4_addSpot 4 = .ok (.invokevirtual 50, 3) := by decide +kernel
theorem dX4_addSpot_7 : decode cX4_addSpot 7 = .ok (.istore 4, 2) := by decide +kernel
theorem dX4_addSpot_9 : decode cX4_addSpot 9 = .ok (.aload_n 0, 1) := by decide +kernel
theorem dX4_addSpot_10 : decode cX4_addSpot 10 = .ok (.getfield 20, 3) := by decide +kernel
theorem dX4_addSpot_13 : decode cX4_addSpot 13 = .ok (.iload 4, 2) := by decide +kernel
theorem dX4_addSpot_15 : decode cX4_addSpot 15 = .ok (.iconst 0, 1) := by decide +kernel
theorem dX4_addSpot_16 : decode cX4_addSpot 16 = .ok (.iload_n 1, 1) := by decide +kernel
theorem dX4_addSpot_17 : decode cX4_addSpot 17 = .ok (.invokevirtual 46, 3) := by decide +kernel
theorem dX4_addSpot_20 : decode cX4_addSpot 20 = .ok (.aload_n 0, 1) := by decide +kernel
theorem dX4_addSpot_21 : decode cX4_addSpot 21 = .ok (.getfield 20, 3) := by decide +kernel
theorem dX4_addSpot_24 : decode cX4_addSpot 24 = .ok (.iload 4, 2) := by decide +kernel
theorem dX4_addSpot_26 : decode cX4_addSpot 26 = .ok (.iconst 1, 1) := by decide +kernel
theorem dX4_addSpot_27 : decode cX4_addSpot 27 = .ok (.iload_n 2, 1) := by decide +kernel
theorem dX4_addSpot_28 : decode cX4_addSpot 28 = .ok (.invokevirtual 46, 3) := by decide +kernel
theorem dX4_addSpot_31 : decode cX4_addSpot 31 = .ok (.aload_n 0, 1) := by decide +kernel
theorem dX4_addSpot_32 : decode cX4_addSpot 32 = .ok (.getfield 20, 3) := by decide +kernel
theorem dX4_addSpot_35 : decode cX4_addSpot 35 = .ok (.iload 4, 2) := by decide +kernel
theorem dX4_addSpot_37 : decode cX4_addSpot 37 = .ok (.iconst 2, 1) := by decide +kernel
theorem dX4_addSpot_38 : decode cX4_addSpot 38 = .ok (.iload_n 3, 1) := by decide +kernel
theorem dX4_addSpot_39 : decode cX4_addSpot 39 = .ok (.invokevirtual 46, 3) := by decide +kernel
theorem dX4_addSpot_42 : decode cX4_addSpot 42 = .ok (.aload_n 0, 1) := by decide +kernel
theorem dX4_addSpot_43 : decode cX4_addSpot 43 = .ok (.iconst 1, 1) := by decide +kernel
theorem dX4_addSpot_44 : decode cX4_addSpot 44 = .ok (.putfield 40, 3) := by decide +kernel
theorem dX4_addSpot_47 : decode cX4_addSpot 47 = .ok (.iload 4, 2) := by decide +kernel
theorem dX4_addSpot_49 : decode cX4_addSpot 49 = .ok (.ireturn, 1) := by decide +kernel
def f_Patrols_addSpot (p0 : Int32) (p1 : Int32) (p2 : Int32) (σ : CS) : Option (Int32 × CS) := bnd (f_Table_add 13 σ) (fun r4 σ4 => bnd (f_Table_put 13 r4 0 p0 σ4) (fun _ σ17 => bnd (f_Table_put 13 r4 1 p1 σ17) (fun _ σ28 => bnd (f_Table_put 13 r4 2 p2 σ28) (fun _ σ39 => some (r4, (sF σ39 68 1))))))
set_option maxHeartbeats 4000000 in
set_option maxRecDepth 100000 in
theorem c_Patrols_addSpot {l : Launch} {g : EG} {ad ta : Nat → Nat} {Rr : va_W} {σ σ' : CS} {r : Int32} {p0 : Int32} {p1 : Int32} {p2 : Int32}  (h : f_Patrols_addSpot p0 p1 p2 σ = some (r, σ')) (hφ2 : ph σ.2.2 ≤ BB) : CtI l g yX4_addSpot (.code yX4_addSpot cX4_addSpot 5 (some .int)) 5 222 ad ta Rr σ [.ref (ad 9), .int p0, .int p1, .int p2] r σ' := by
  refine Ct.of rfl (by decide) (Nat.le_of_ble_eq_true rfl) ?_
  intro p e s m args below meth c A C hr
  have hφ : ph σ.2.2 ≤ ph σ.2.2 := Nat.le_refl _
  refine nw_zero (ph σ.2.2) ?_
  show NI g p l e s m args below meth c A 5 222 5 ad Rr (ph σ.2.2) (r, σ') ta σ [(0, .ref (ad 9)), (1, .int p0), (2, .int p1), (3, .int p2)] 0 []
  unfold f_Patrols_addSpot at h
  refine nw_aload_n C dX4_addSpot_0 rfl 0 rfl ?_
  refine nw_get (v := .ref (ad 24)) C in_X4 9 cl_Patrols rfl 1 (by decide) tw_463 rfl rfl dX4_addSpot_1 ?_
  refine nc_callVI (q0 := 24) (As := []) (rest := []) C h (fun _ _ e => c_Table_add 13 (by decide) e hφ2) tw_1503 kv_X9_add (cl_T 13 (by decide)) rfl ⟨Nat.le_of_ble_eq_true rfl, Nat.le_of_ble_eq_true rfl⟩ rfl dX4_addSpot_4 rfl (Nat.le_of_ble_eq_true rfl) hφ hφ2 (fun r4 σ4 ta h hφ hφ2 => ?_)
  refine nw_istore (lv' := [(4, .int r4), (0, .ref (ad 9)), (1, .int p0), (2, .int p1), (3, .int p2)]) C dX4_addSpot_7 (by decide) rfl ?_
  refine nw_aload_n C dX4_addSpot_9 rfl 1 rfl ?_
  refine nw_get (v := .ref (ad 24)) C in_X4 9 cl_Patrols rfl 1 (by decide) tw_463 rfl rfl dX4_addSpot_10 ?_
  refine nw_iload C dX4_addSpot_13 0 rfl ?_
  refine nw_iconst (v := 0) C dX4_addSpot_15 (by decide) ?_
  refine nw_iload_n C dX4_addSpot_16 rfl 2 rfl ?_
  refine nc_callVV (q0 := 24) (As := [.int r4, .int 0, .int p0]) (rest := []) C h (fun _ _ e => c_Table_put 13 (by decide) e hφ2) tw_1491 kv_X9_put (cl_T 13 (by decide)) rfl ⟨Nat.le_of_ble_eq_true rfl, Nat.le_of_ble_eq_true rfl⟩ rfl dX4_addSpot_17 rfl (Nat.le_of_ble_eq_true rfl) hφ hφ2 (fun r17 σ17 ta h hφ hφ2 => ?_)
  refine nw_aload_n C dX4_addSpot_20 rfl 1 rfl ?_
  refine nw_get (v := .ref (ad 24)) C in_X4 9 cl_Patrols rfl 1 (by decide) tw_463 rfl rfl dX4_addSpot_21 ?_
  refine nw_iload C dX4_addSpot_24 0 rfl ?_
  refine nw_iconst (v := 1) C dX4_addSpot_26 (by decide) ?_
  refine nw_iload_n C dX4_addSpot_27 rfl 3 rfl ?_
  refine nc_callVV (q0 := 24) (As := [.int r4, .int 1, .int p1]) (rest := []) C h (fun _ _ e => c_Table_put 13 (by decide) e hφ2) tw_1491 kv_X9_put (cl_T 13 (by decide)) rfl ⟨Nat.le_of_ble_eq_true rfl, Nat.le_of_ble_eq_true rfl⟩ rfl dX4_addSpot_28 rfl (Nat.le_of_ble_eq_true rfl) hφ hφ2 (fun r28 σ28 ta h hφ hφ2 => ?_)
  refine nw_aload_n C dX4_addSpot_31 rfl 1 rfl ?_
  refine nw_get (v := .ref (ad 24)) C in_X4 9 cl_Patrols rfl 1 (by decide) tw_463 rfl rfl dX4_addSpot_32 ?_
  refine nw_iload C dX4_addSpot_35 0 rfl ?_
  refine nw_iconst (v := 2) C dX4_addSpot_37 (by decide) ?_
  refine nw_iload_n C dX4_addSpot_38 rfl 4 rfl ?_
  refine nc_callVV (q0 := 24) (As := [.int r4, .int 2, .int p2]) (rest := []) C h (fun _ _ e => c_Table_put 13 (by decide) e hφ2) tw_1491 kv_X9_put (cl_T 13 (by decide)) rfl ⟨Nat.le_of_ble_eq_true rfl, Nat.le_of_ble_eq_true rfl⟩ rfl dX4_addSpot_39 rfl (Nat.le_of_ble_eq_true rfl) hφ hφ2 (fun r39 σ39 ta h hφ hφ2 => ?_)
  refine nw_aload_n C dX4_addSpot_42 rfl 1 rfl ?_
  refine nw_iconst (v := 1) C dX4_addSpot_43 (by decide) ?_
  refine nw_put (ty := .boolean) C in_X4 9 cl_Patrols rfl 8 (by decide) tyX4 tyX4_ok nmX4 tw_472 rfl rfl (by decide +kernel) (nar_b (Or.inr rfl)) (fit_b (Or.inr rfl)) (Nat.le_of_ble_eq_true rfl) dX4_addSpot_44 cs_Patrols_stale ?_
  refine nw_iload C dX4_addSpot_47 0 rfl ?_
  exact nc_iret C hr dX4_addSpot_49 hφ hφ2 h
theorem dX4_wardenOf_0 : decode cX4_wardenOf 0 = .ok (.iload_n 1, 1) := by decide +kernel
theorem dX4_wardenOf_1 : decode cX4_wardenOf 1 = .ok (.ifCond .lt 21, 3) := by decide +kernel
theorem dX4_wardenOf_4 : decode cX4_wardenOf 4 = .ok (.iload_n 1, 1) := by decide +kernel
theorem dX4_wardenOf_5 : decode cX4_wardenOf 5 = .ok (.aload_n 0, 1) := by decide +kernel
theorem dX4_wardenOf_6 : decode cX4_wardenOf 6 = .ok (.getfield 34, 3) := by decide +kernel
theorem dX4_wardenOf_9 : decode cX4_wardenOf 9 = .ok (.arraylength, 1) := by decide +kernel
theorem dX4_wardenOf_10 : decode cX4_wardenOf 10 = .ok (.if_icmp .ge 12, 3) := by decide +kernel
theorem dX4_wardenOf_13 : decode cX4_wardenOf 13 = .ok (.aload_n 0, 1) := by decide +kernel
theorem dX4_wardenOf_14 : decode cX4_wardenOf 14 = .ok (.getfield 34, 3) := by decide +kernel
theorem dX4_wardenOf_17 : decode cX4_wardenOf 17 = .ok (.iload_n 1, 1) := by decide +kernel
theorem dX4_wardenOf_18 : decode cX4_wardenOf 18 = .ok (.iaload, 1) := by decide +kernel
theorem dX4_wardenOf_19 : decode cX4_wardenOf 19 = .ok (.goto 4, 3) := by decide +kernel
theorem dX4_wardenOf_22 : decode cX4_wardenOf 22 = .ok (.iconst (-1), 1) := by decide +kernel
theorem dX4_wardenOf_23 : decode cX4_wardenOf 23 = .ok (.ireturn, 1) := by decide +kernel
def f_Patrols_wardenOf (p0 : Int32) (σ : CS) : Option (Int32 × CS) := if p0 < 0 then some ((-1), σ) else if 8 ≤ p0 then some ((-1), σ) else gix p0 8 (some ((rd σ 30 p0), σ))
set_option maxHeartbeats 4000000 in
set_option maxRecDepth 100000 in
theorem c_Patrols_wardenOf {l : Launch} {g : EG} {ad ta : Nat → Nat} {Rr : va_W} {σ σ' : CS} {r : Int32} {p0 : Int32}  (h : f_Patrols_wardenOf p0 σ = some (r, σ')) (hφ2 : ph σ.2.2 ≤ BB) : CtI l g yX4_wardenOf (.code yX4_wardenOf cX4_wardenOf 2 (some .int)) 0 0 ad ta Rr σ [.ref (ad 9), .int p0] r σ' := by
  refine Ct.of rfl (by decide) (Nat.le_of_ble_eq_true rfl) ?_
  intro p e s m args below meth c A C hr
  have hφ : ph σ.2.2 ≤ ph σ.2.2 := Nat.le_refl _
  refine nw_zero (ph σ.2.2) ?_
  show NI g p l e s m args below meth c A 0 0 2 ad Rr (ph σ.2.2) (r, σ') ta σ [(0, .ref (ad 9)), (1, .int p0)] 0 []
  unfold f_Patrols_wardenOf at h
  refine nw_iload_n C dX4_wardenOf_0 rfl 1 rfl ?_
  refine nw_if_lt (tgt := 22) C dX4_wardenOf_1 (by decide) h (fun _ h => ?_) (fun _ h => ?_)
  · refine nw_iconst (v := (-1)) C dX4_wardenOf_22 (by decide) ?_
    exact nc_iret C hr dX4_wardenOf_23 hφ hφ2 h
  · refine nw_iload_n C dX4_wardenOf_4 rfl 1 rfl ?_
    refine nw_aload_n C dX4_wardenOf_5 rfl 0 rfl ?_
    refine nw_get (v := .ref (ad 57)) C in_X4 9 cl_Patrols rfl 5 (by decide) tw_468 rfl rfl dX4_wardenOf_6 ?_
    refine nw_alenI C 57 (cl_I 30 rfl) dX4_wardenOf_9 ?_
    refine nw_st (st' := [.int 8, .int p0]) rfl ?_
    refine nw_icmp_ge (tgt := 22) C dX4_wardenOf_10 (by decide) h (fun _ h => ?_) (fun _ h => ?_)
    · refine nw_iconst (v := (-1)) C dX4_wardenOf_22 (by decide) ?_
      exact nc_iret C hr dX4_wardenOf_23 hφ hφ2 h
    · refine nw_aload_n C dX4_wardenOf_13 rfl 0 rfl ?_
      refine nw_get (v := .ref (ad 57)) C in_X4 9 cl_Patrols rfl 5 (by decide) tw_468 rfl rfl dX4_wardenOf_14 ?_
      refine nw_iload_n C dX4_wardenOf_17 rfl 1 rfl ?_
      refine nw_iald C 57 (cl_I 30 rfl) dX4_wardenOf_18 h (fun h => ?_)
      refine nw_goto (tgt := 23) C dX4_wardenOf_19 (by decide) ?_
      exact nc_iret C hr dX4_wardenOf_23 hφ hφ2 h
theorem dX5_addPerson_0 : decode cX5_addPerson 0 = .ok (.aload_n 0, 1) := by decide +kernel
theorem dX5_addPerson_1 : decode cX5_addPerson 1 = .ok (.getfield 14, 3) := by decide +kernel
theorem dX5_addPerson_4 : decode cX5_addPerson 4 = .ok (.invokevirtual 20, 3) := by decide +kernel
theorem dX5_addPerson_7 : decode cX5_addPerson 7 = .ok (.istore_n 3, 1) := by decide +kernel
theorem dX5_addPerson_8 : decode cX5_addPerson 8 = .ok (.aload_n 0, 1) := by decide +kernel
theorem dX5_addPerson_9 : decode cX5_addPerson 9 = .ok (.getfield 14, 3) := by decide +kernel
theorem dX5_addPerson_12 : decode cX5_addPerson 12 = .ok (.iload_n 3, 1) := by decide +kernel
theorem dX5_addPerson_13 : decode cX5_addPerson 13 = .ok (.iconst 0, 1) := by decide +kernel
theorem dX5_addPerson_14 : decode cX5_addPerson 14 = .ok (.iload_n 1, 1) := by decide +kernel
theorem dX5_addPerson_15 : decode cX5_addPerson 15 = .ok (.invokevirtual 24, 3) := by decide +kernel
theorem dX5_addPerson_18 : decode cX5_addPerson 18 = .ok (.aload_n 0, 1) := by decide +kernel
theorem dX5_addPerson_19 : decode cX5_addPerson 19 = .ok (.getfield 14, 3) := by decide +kernel
theorem dX5_addPerson_22 : decode cX5_addPerson 22 = .ok (.iload_n 3, 1) := by decide +kernel
theorem dX5_addPerson_23 : decode cX5_addPerson 23 = .ok (.iconst 1, 1) := by decide +kernel
theorem dX5_addPerson_24 : decode cX5_addPerson 24 = .ok (.iload_n 2, 1) := by decide +kernel
theorem dX5_addPerson_25 : decode cX5_addPerson 25 = .ok (.invokevirtual 24, 3) := by decide +kernel
theorem dX5_addPerson_28 : decode cX5_addPerson 28 = .ok (.iload_n 3, 1) := by decide +kernel
theorem dX5_addPerson_29 : decode cX5_addPerson 29 = .ok (.ireturn, 1) := by decide +kernel
def f_People_addPerson (p0 : Int32) (p1 : Int32) (σ : CS) : Option (Int32 × CS) := bnd (f_Table_add 6 σ) (fun r4 σ4 => bnd (f_Table_put 6 r4 0 p0 σ4) (fun _ σ15 => bnd (f_Table_put 6 r4 1 p1 σ15) (fun _ σ25 => some (r4, σ25))))
set_option maxHeartbeats 4000000 in
set_option maxRecDepth 100000 in
theorem c_People_addPerson {l : Launch} {g : EG} {ad ta : Nat → Nat} {Rr : va_W} {σ σ' : CS} {r : Int32} {p0 : Int32} {p1 : Int32}  (h : f_People_addPerson p0 p1 σ = some (r, σ')) (hφ2 : ph σ.2.2 ≤ BB) : CtI l g yX5_addPerson (.code yX5_addPerson cX5_addPerson 4 (some .int)) 5 222 ad ta Rr σ [.ref (ad 5), .int p0, .int p1] r σ' := by
  refine Ct.of rfl (by decide) (Nat.le_of_ble_eq_true rfl) ?_
  intro p e s m args below meth c A C hr
  have hφ : ph σ.2.2 ≤ ph σ.2.2 := Nat.le_refl _
  refine nw_zero (ph σ.2.2) ?_
  show NI g p l e s m args below meth c A 5 222 4 ad Rr (ph σ.2.2) (r, σ') ta σ [(0, .ref (ad 5)), (1, .int p0), (2, .int p1)] 0 []
  unfold f_People_addPerson at h
  refine nw_aload_n C dX5_addPerson_0 rfl 0 rfl ?_
  refine nw_get (v := .ref (ad 17)) C in_X5 5 cl_People rfl 0 (by decide) tw_312 rfl rfl dX5_addPerson_1 ?_
  refine nc_callVI (q0 := 17) (As := []) (rest := []) C h (fun _ _ e => c_Table_add 6 (by decide) e hφ2) tw_1273 kv_X9_add (cl_T 6 (by decide)) rfl ⟨Nat.le_of_ble_eq_true rfl, Nat.le_of_ble_eq_true rfl⟩ rfl dX5_addPerson_4 rfl (Nat.le_of_ble_eq_true rfl) hφ hφ2 (fun r4 σ4 ta h hφ hφ2 => ?_)
  refine nw_istore_n (lv' := [(3, .int r4), (0, .ref (ad 5)), (1, .int p0), (2, .int p1)]) C dX5_addPerson_7 rfl (by decide) rfl ?_
  refine nw_aload_n C dX5_addPerson_8 rfl 1 rfl ?_
  refine nw_get (v := .ref (ad 17)) C in_X5 5 cl_People rfl 0 (by decide) tw_312 rfl rfl dX5_addPerson_9 ?_
  refine nw_iload_n C dX5_addPerson_12 rfl 0 rfl ?_
  refine nw_iconst (v := 0) C dX5_addPerson_13 (by decide) ?_
  refine nw_iload_n C dX5_addPerson_14 rfl 2 rfl ?_
  refine nc_callVV (q0 := 17) (As := [.int r4, .int 0, .int p0]) (rest := []) C h (fun _ _ e => c_Table_put 6 (by decide) e hφ2) tw_906 kv_X9_put (cl_T 6 (by decide)) rfl ⟨Nat.le_of_ble_eq_true rfl, Nat.le_of_ble_eq_true rfl⟩ rfl dX5_addPerson_15 rfl (Nat.le_of_ble_eq_true rfl) hφ hφ2 (fun r15 σ15 ta h hφ hφ2 => ?_)
  refine nw_aload_n C dX5_addPerson_18 rfl 1 rfl ?_
  refine nw_get (v := .ref (ad 17)) C in_X5 5 cl_People rfl 0 (by decide) tw_312 rfl rfl dX5_addPerson_19 ?_
  refine nw_iload_n C dX5_addPerson_22 rfl 0 rfl ?_
  refine nw_iconst (v := 1) C dX5_addPerson_23 (by decide) ?_
  refine nw_iload_n C dX5_addPerson_24 rfl 3 rfl ?_
  refine nc_callVV (q0 := 17) (As := [.int r4, .int 1, .int p1]) (rest := []) C h (fun _ _ e => c_Table_put 6 (by decide) e hφ2) tw_906 kv_X9_put (cl_T 6 (by decide)) rfl ⟨Nat.le_of_ble_eq_true rfl, Nat.le_of_ble_eq_true rfl⟩ rfl dX5_addPerson_25 rfl (Nat.le_of_ble_eq_true rfl) hφ hφ2 (fun r25 σ25 ta h hφ hφ2 => ?_)
  refine nw_iload_n C dX5_addPerson_28 rfl 0 rfl ?_
  exact nc_iret C hr dX5_addPerson_29 hφ hφ2 h
theorem dX7_addEntry_0 : decode cX7_addEntry 0 = .ok (.iconst 0, 1) := by decide +kernel
theorem dX7_addEntry_1 : decode cX7_addEntry 1 = .ok (.istore 4, 2) := by decide +kernel
theorem dX7_addEntry_3 : decode cX7_addEntry 3 = .ok (.iconst 0, 1) := by decide +kernel
theorem dX7_addEntry_4 : decode cX7_addEntry 4 = .ok (.istore 5, 2) := by decide +kernel
theorem dX7_addEntry_6 : decode cX7_addEntry 6 = .ok (.iconst 0, 1) := by decide +kernel
theorem dX7_addEntry_7 : decode cX7_addEntry 7 = .ok (.istore 6, 2) := by decide +kernel
theorem dX7_addEntry_9 : decode cX7_addEntry 9 = .ok (.iload 6, 2) := by decide +kernel
theorem dX7_addEntry_11 : decode cX7_addEntry 11 = .ok (.aload_n 0, 1) := by decide +kernel
theorem dX7_addEntry_12 : decode cX7_addEntry 12 = .ok (.getfield 16, 3) := by decide +kernel
theorem dX7_addEntry_15 : decode cX7_addEntry 15 = .ok (.invokevirtual 33, 3) := by decide +kernel
theorem dX7_addEntry_18 : decode cX7_addEntry 18 = .ok (.if_icmp .ge 50, 3) := by decide +kernel
theorem dX7_addEntry_21 : decode cX7_addEntry 21 = .ok (.aload_n 0, 1) := by decide +kernel
theorem dX7_addEntry_22 : decode cX7_addEntry 22 = .ok (.getfield 16, 3) := by decide +kernel
theorem dX7_addEntry_25 : decode cX7_addEntry 25 = .ok (.iload 6, 2) := by decide +kernel
theorem dX7_addEntry_27 : decode cX7_addEntry 27 = .ok (.iconst 0, 1) := by decide +kernel
theorem dX7_addEntry_28 : decode cX7_addEntry 28 = .ok (.invokevirtual 37, 3) := by decide +kernel
theorem dX7_addEntry_31 : decode cX7_addEntry 31 = .ok (.iload_n 1, 1) := by decide +kernel
theorem dX7_addEntry_32 : decode cX7_addEntry 32 = .ok (.if_icmp .ne 30, 3) := by decide +kernel
theorem dX7_addEntry_35 : decode cX7_addEntry 35 = .ok (.iinc 4 1, 3) := by decide +kernel
theorem dX7_addEntry_38 : decode cX7_addEntry 38 = .ok (.iload 5, 2) := by decide +kernel
theorem dX7_addEntry_40 : decode cX7_addEntry 40 = .ok (.aload_n 0, 1) := by decide +kernel
theorem dX7_addEntry_41 : decode cX7_addEntry 41 = .ok (.getfield 16, 3) := by decide +kernel
theorem dX7_addEntry_44 : decode cX7_addEntry 44 = .ok (.iload 6, 2) := by decide +kernel
theorem dX7_addEntry_46 : decode cX7_addEntry 46 = .ok (.iconst 1, 1) := by decide +kernel
theorem dX7_addEntry_47 : decode cX7_addEntry 47 = .ok (.invokevirtual 37, 3) := by decide +kernel
theorem dX7_addEntry_50 : decode cX7_addEntry 50 = .ok (.iload_n 2, 1) := by decide +kernel
theorem dX7_addEntry_51 : decode cX7_addEntry 51 = .ok (.if_icmp .ne 7, 3) := by decide +kernel
theorem dX7_addEntry_54 : decode cX7_addEntry 54 = .ok (.iconst 1, 1) := by decide +kernel
theorem dX7_addEntry_55 : decode cX7_addEntry 55 = .ok (.goto 4, 3) := by decide +kernel
theorem dX7_addEntry_58 : decode cX7_addEntry 58 = .ok (.iconst 0, 1) := by decide +kernel
theorem dX7_addEntry_59 : decode cX7_addEntry 59 = .ok (.ior, 1) := by decide +kernel
theorem dX7_addEntry_60 : decode cX7_addEntry 60 = .ok (.istore 5, 2) := by decide +kernel
theorem dX7_addEntry_62 : decode cX7_addEntry 62 = .ok (.iinc 6 1, 3) := by decide +kernel
theorem dX7_addEntry_65 : decode cX7_addEntry 65 = .ok (.goto (-56), 3) := by decide +kernel
theorem dX7_addEntry_68 : decode cX7_addEntry 68 = .ok (.iload 4, 2) := by decide +kernel
theorem dX7_addEntry_70 : decode cX7_addEntry 70 = .ok (.bipush 8, 2) := by decide +kernel
theorem dX7_addEntry_72 : decode cX7_addEntry 72 = .ok (.if_icmp .lt 5, 3) := by decide +kernel
theorem dX7_addEntry_75 : decode cX7_addEntry 75 = .ok (.iconst (-1), 1) := by decide +kernel
theorem dX7_addEntry_76 : decode cX7_addEntry 76 = .ok (.ireturn, 1) := by decide +kernel
theorem dX7_addEntry_77 : decode cX7_addEntry 77 = .ok (.iload 5, 2) := by decide +kernel
theorem dX7_addEntry_79 : decode cX7_addEntry 79 = .ok (.ifCond .eq 6, 3) := by decide +kernel
theorem dX7_addEntry_82 : decode cX7_addEntry 82 = .ok (.bipush (-2), 2) := by decide +kernel
theorem dX7_addEntry_84 : decode cX7_addEntry 84 = .ok (.ireturn, 1) := by decide +kernel
theorem dX7_addEntry_85 : decode cX7_addEntry 85 = .ok (.aload_n 0, 1) := by decide +kernel
theorem dX7_addEntry_86 : decode cX7_addEntry 86 = .ok (.getfield 16, 3) := by decide +kernel
theorem dX7_addEntry_89 : decode cX7_addEntry 89 = .ok (.invokevirtual 41, 3) := by decide +kernel
theorem dX7_addEntry_92 : decode cX7_addEntry 92 = .ok (.istore 6, 2) := by decide +kernel
theorem dX7_addEntry_94 : decode cX7_addEntry 94 = .ok (.aload_n 0, 1) := by decide +kernel
theorem dX7_addEntry_95 : decode cX7_addEntry 95 = .ok (.getfield 16, 3) := by decide +kernel
theorem dX7_addEntry_98 : decode cX7_addEntry 98 = .ok (.iload 6, 2) := by decide +kernel
theorem dX7_addEntry_100 : decode cX7_addEntry 100 = .ok (.iconst 0, 1) := by decide +kernel
theorem dX7_addEntry_101 : decode cX7_addEntry 101 = .ok (.iload_n 1, 1) := by decide +kernel
theorem dX7_addEntry_102 : decode cX7_addEntry 102 = .ok (.invokevirtual 44, 3) := by decide +kernel
theorem dX7_addEntry_105 : decode cX7_addEntry 105 = .ok (.aload_n 0, 1) := by decide +kernel
theorem dX7_addEntry_106 : decode cX7_addEntry 106 = .ok (.getfield 16, 3) := by decide +kernel
theorem dX7_addEntry_109 : decode cX7_addEntry 109 = .ok (.iload 6, 2) := by decide +kernel
theorem dX7_addEntry_111 : decode cX7_addEntry 111 = .ok (.iconst 1, 1) := by decide +kernel
theorem dX7_addEntry_112 : decode cX7_addEntry 112 = .ok (.iload_n 2, 1) := by decide +kernel
theorem dX7_addEntry_113 : decode cX7_addEntry 113 = .ok (.invokevirtual 44, 3) := by decide +kernel
theorem dX7_addEntry_116 : decode cX7_addEntry 116 = .ok (.aload_n 0, 1) := by decide +kernel
theorem dX7_addEntry_117 : decode cX7_addEntry 117 = .ok (.getfield 16, 3) := by decide +kernel
theorem dX7_addEntry_120 : decode cX7_addEntry 120 = .ok (.iload 6, 2) := by decide +kernel
theorem dX7_addEntry_122 : decode cX7_addEntry 122 = .ok (.iconst 2, 1) := by decide +kernel
theorem dX7_addEntry_123 : decode cX7_addEntry 123 = .ok (.iload_n 3, 1) := by decide +kernel
theorem dX7_addEntry_124 : decode cX7_addEntry 124 = .ok (.invokevirtual 44, 3) := by decide +kernel
theorem dX7_addEntry_127 : decode cX7_addEntry 127 = .ok (.aload_n 0, 1) := by decide +kernel
theorem dX7_addEntry_128 : decode cX7_addEntry 128 = .ok (.iconst 1, 1) := by decide +kernel
theorem dX7_addEntry_129 : decode cX7_addEntry 129 = .ok (.putfield 48, 3) := by decide +kernel
theorem dX7_addEntry_132 : decode cX7_addEntry 132 = .ok (.iload 4, 2) := by decide +kernel
theorem dX7_addEntry_134 : decode cX7_addEntry 134 = .ok (.iconst 1, 1) := by decide +kernel
theorem dX7_addEntry_135 : decode cX7_addEntry 135 = .ok (.iadd, 1) := by decide +kernel
theorem dX7_addEntry_136 : decode cX7_addEntry 136 = .ok (.ireturn, 1) := by decide +kernel
def B_Rolls_addEntry_59 (k9 : Int32 → Int32 → Int32 → CS → Option (Int32 × CS)) (x1 : Int32) (x2 : Int32) (x3 : Int32) (x4 : Int32) (x6 : Int32) (z0 : Int32) (z1 : Int32) (σ : CS) : Option (Int32 × CS) := k9 x4 (z0 ||| z1) (x6 + 1) σ
set_option maxHeartbeats 4000000 in
set_option maxRecDepth 100000 in
theorem w_Rolls_addEntry_59 (C : Cx g p s m args meth c A 7 cX7_addEntry yX7_addEntry.cls) (hr : meth.sig.returnType = (some .int))  {res : Int32 × CS}  (x1 : Int32) (x2 : Int32) (x3 : Int32) (x4 : Int32) (x6 : Int32) (z0 : Int32) (z1 : Int32) {k9 : Int32 → Int32 → Int32 → CS → Option (Int32 × CS)} (hk9 : ∀ (x4 : Int32) (x5 : Int32) (x6 : Int32) (σ : CS) (ta : Nat → Nat), φ0 ≤ ph σ.2.2 → ph σ.2.2 ≤ BB → k9 x4 x5 x6 σ = some res → NI g p l e s m args below meth c A 5 222 7 ad Rr φ0 res ta σ [(0, .ref (ad 8)), (1, .int x1), (2, .int x2), (3, .int x3), (4, .int x4), (5, .int x5), (6, .int x6)] 9 []) (σ : CS) (ta : Nat → Nat) (hφ : φ0 ≤ ph σ.2.2) (hφ2 : ph σ.2.2 ≤ BB) (h : B_Rolls_addEntry_59 k9 x1 x2 x3 x4 x6 z0 z1 σ = some res) : NI g p l e s m args below meth c A 5 222 7 ad Rr φ0 res ta σ [(0, .ref (ad 8)), (1, .int x1), (2, .int x2), (3, .int x3), (4, .int x4), (6, .int x6)] 59 [.int z1, .int z0] := by
  unfold B_Rolls_addEntry_59 at h
  refine nw_ior C dX7_addEntry_59 ?_
  refine nw_istore (lv' := [(5, .int (z0 ||| z1)), (0, .ref (ad 8)), (1, .int x1), (2, .int x2), (3, .int x3), (4, .int x4), (6, .int x6)]) C dX7_addEntry_60 (by decide) rfl ?_
  refine nw_iinc (lv' := [(6, .int (x6 + 1)), (5, .int (z0 ||| z1)), (0, .ref (ad 8)), (1, .int x1), (2, .int x2), (3, .int x3), (4, .int x4)]) C (x6 + 1) dX7_addEntry_62 6 rfl rfl (by decide) rfl ?_
  refine nw_goto (tgt := 9) C dX7_addEntry_65 (by decide) ?_
  exact nw_lv (lv' := [(0, .ref (ad 8)), (1, .int x1), (2, .int x2), (3, .int x3), (4, .int x4), (5, .int (z0 ||| z1)), (6, .int (x6 + 1))]) [2, 3, 4, 5, 6, 1, 0] rfl (hk9 x4 (z0 ||| z1) (x6 + 1) _ _ hφ hφ2 h)
def L_Rolls_addEntry_9 (k68 : Int32 → Int32 → Int32 → Int32 → Int32 → CS → Option (Int32 × CS)) (x1 : Int32) (x2 : Int32) (x3 : Int32) : Nat → Int32 → Int32 → Int32 → CS → Option (Int32 × CS)
  | 0, _, _, _, _ => none
  | n + 1, x4, x5, x6, σ => bnd (f_Table_size 12 σ) (fun r15 σ15 => if r15 ≤ x6 then k68 x1 x2 x3 x4 x5 σ15 else bnd (f_Table_get 12 x6 0 σ15) (fun r28 σ28 => if r28 = x1 then bnd (f_Table_get 12 x6 1 σ28) (fun r47 σ47 => if r47 = x2 then B_Rolls_addEntry_59 (L_Rolls_addEntry_9 k68 x1 x2 x3 n) x1 x2 x3 (x4 + 1) x6 x5 1 σ47 else B_Rolls_addEntry_59 (L_Rolls_addEntry_9 k68 x1 x2 x3 n) x1 x2 x3 (x4 + 1) x6 x5 0 σ47) else (L_Rolls_addEntry_9 k68 x1 x2 x3 n) x4 x5 (x6 + 1) σ28))
set_option maxHeartbeats 4000000 in
set_option maxRecDepth 100000 in
theorem w_Rolls_addEntry_9 (C : Cx g p s m args meth c A 7 cX7_addEntry yX7_addEntry.cls) (hr : meth.sig.returnType = (some .int))  {res : Int32 × CS}  (x1 : Int32) (x2 : Int32) (x3 : Int32) {k68 : Int32 → Int32 → Int32 → Int32 → Int32 → CS → Option (Int32 × CS)} (hk68 : ∀ (x1 : Int32) (x2 : Int32) (x3 : Int32) (x4 : Int32) (x5 : Int32) (σ : CS) (ta : Nat → Nat), φ0 ≤ ph σ.2.2 → ph σ.2.2 ≤ BB → k68 x1 x2 x3 x4 x5 σ = some res → NI g p l e s m args below meth c A 5 222 7 ad Rr φ0 res ta σ [(0, .ref (ad 8)), (1, .int x1), (2, .int x2), (3, .int x3), (4, .int x4), (5, .int x5)] 68 []) : ∀ (n : Nat) (x4 : Int32) (x5 : Int32) (x6 : Int32) (σ : CS) (ta : Nat → Nat), φ0 ≤ ph σ.2.2 → ph σ.2.2 ≤ BB → L_Rolls_addEntry_9 k68 x1 x2 x3 n x4 x5 x6 σ = some res → NI g p l e s m args below meth c A 5 222 7 ad Rr φ0 res ta σ [(0, .ref (ad 8)), (1, .int x1), (2, .int x2), (3, .int x3), (4, .int x4), (5, .int x5), (6, .int x6)] 9 [] := by
  intro n
  induction n with
  | zero =>
    intro x4 x5 x6 σ ta hφ hφ2 h
    exact absurd (show (none : Option (Int32 × CS)) = some res from h) (by intro h9; cases h9)
  | succ n ih =>
    intro x4 x5 x6 σ ta hφ hφ2 h
    rw [L_Rolls_addEntry_9] at h
    refine nw_iload C dX7_addEntry_9 6 rfl ?_
    refine nw_aload_n C dX7_addEntry_11 rfl 0 rfl ?_
    refine nw_get (v := .ref (ad 23)) C in_X7 8 cl_Rolls rfl 0 (by decide) tw_429 rfl rfl dX7_addEntry_12 ?_
    refine nc_callVI (q0 := 23) (As := []) (rest := [.int x6]) C h (fun _ _ e => c_Table_size 12 (by decide) e hφ2) tw_587 kv_X9_size (cl_T 12 (by decide)) rfl ⟨Nat.le_of_ble_eq_true rfl, Nat.le_of_ble_eq_true rfl⟩ rfl dX7_addEntry_15 rfl (Nat.le_of_ble_eq_true rfl) hφ hφ2 (fun r15 σ15 ta h hφ hφ2 => ?_)
    refine nw_icmp_ge (tgt := 68) C dX7_addEntry_18 (by decide) h (fun _ h => ?_) (fun _ h => ?_)
    · exact nw_lv (lv' := [(0, .ref (ad 8)), (1, .int x1), (2, .int x2), (3, .int x3), (4, .int x4), (5, .int x5)]) [0, 1, 2, 3, 4, 5] rfl (hk68 x1 x2 x3 x4 x5 _ _ hφ hφ2 h)
    · refine nw_aload_n C dX7_addEntry_21 rfl 0 rfl ?_
      refine nw_get (v := .ref (ad 23)) C in_X7 8 cl_Rolls rfl 0 (by decide) tw_429 rfl rfl dX7_addEntry_22 ?_
      refine nw_iload C dX7_addEntry_25 6 rfl ?_
      refine nw_iconst (v := 0) C dX7_addEntry_27 (by decide) ?_
      refine nc_callVI (q0 := 23) (As := [.int x6, .int 0]) (rest := []) C h (fun _ _ e => c_Table_get 12 (by decide) e hφ2) tw_588 kv_X9_get (cl_T 12 (by decide)) rfl ⟨Nat.le_of_ble_eq_true rfl, Nat.le_of_ble_eq_true rfl⟩ rfl dX7_addEntry_28 rfl (Nat.le_of_ble_eq_true rfl) hφ hφ2 (fun r28 σ28 ta h hφ hφ2 => ?_)
      refine nw_iload_n C dX7_addEntry_31 rfl 1 rfl ?_
      refine nw_icmp_ne (tgt := 62) C dX7_addEntry_32 (by decide) h (fun _ h => ?_) (fun _ h => ?_)
      · refine nw_iinc (lv' := [(4, .int (x4 + 1)), (0, .ref (ad 8)), (1, .int x1), (2, .int x2), (3, .int x3), (5, .int x5), (6, .int x6)]) C (x4 + 1) dX7_addEntry_35 4 rfl rfl (by decide) rfl ?_
        refine nw_iload C dX7_addEntry_38 5 rfl ?_
        refine nw_aload_n C dX7_addEntry_40 rfl 1 rfl ?_
        refine nw_get (v := .ref (ad 23)) C in_X7 8 cl_Rolls rfl 0 (by decide) tw_429 rfl rfl dX7_addEntry_41 ?_
        refine nw_iload C dX7_addEntry_44 6 rfl ?_
        refine nw_iconst (v := 1) C dX7_addEntry_46 (by decide) ?_
        refine nc_callVI (q0 := 23) (As := [.int x6, .int 1]) (rest := [.int x5]) C h (fun _ _ e => c_Table_get 12 (by decide) e hφ2) tw_588 kv_X9_get (cl_T 12 (by decide)) rfl ⟨Nat.le_of_ble_eq_true rfl, Nat.le_of_ble_eq_true rfl⟩ rfl dX7_addEntry_47 rfl (Nat.le_of_ble_eq_true rfl) hφ hφ2 (fun r47 σ47 ta h hφ hφ2 => ?_)
        refine nw_iload_n C dX7_addEntry_50 rfl 3 rfl ?_
        refine nw_icmp_ne (tgt := 58) C dX7_addEntry_51 (by decide) h (fun _ h => ?_) (fun _ h => ?_)
        · refine nw_iconst (v := 1) C dX7_addEntry_54 (by decide) ?_
          refine nw_goto (tgt := 59) C dX7_addEntry_55 (by decide) ?_
          exact nw_lv (lv' := [(0, .ref (ad 8)), (1, .int x1), (2, .int x2), (3, .int x3), (4, .int (x4 + 1)), (6, .int x6)]) [1, 2, 3, 4, 0, 6] rfl (w_Rolls_addEntry_59 C hr x1 x2 x3 (x4 + 1) x6 x5 1 ih _ _ hφ hφ2 h)
        · refine nw_iconst (v := 0) C dX7_addEntry_58 (by decide) ?_
          exact nw_lv (lv' := [(0, .ref (ad 8)), (1, .int x1), (2, .int x2), (3, .int x3), (4, .int (x4 + 1)), (6, .int x6)]) [1, 2, 3, 4, 0, 6] rfl (w_Rolls_addEntry_59 C hr x1 x2 x3 (x4 + 1) x6 x5 0 ih _ _ hφ hφ2 h)
      · refine nw_iinc (lv' := [(6, .int (x6 + 1)), (0, .ref (ad 8)), (1, .int x1), (2, .int x2), (3, .int x3), (4, .int x4), (5, .int x5)]) C (x6 + 1) dX7_addEntry_62 6 rfl rfl (by decide) rfl ?_
        refine nw_goto (tgt := 9) C dX7_addEntry_65 (by decide) ?_
        exact nw_lv (lv' := [(0, .ref (ad 8)), (1, .int x1), (2, .int x2), (3, .int x3), (4, .int x4), (5, .int x5), (6, .int (x6 + 1))]) [1, 2, 3, 4, 5, 6, 0] rfl (ih x4 x5 (x6 + 1) _ _ hφ hφ2 h)
def B_Rolls_addEntry_68   (x1 : Int32) (x2 : Int32) (x3 : Int32) (x4 : Int32) (x5 : Int32) (σ : CS) : Option (Int32 × CS) := if x4 < 8 then if x5 = 0 then bnd (f_Table_add 12 σ) (fun r89 σ89 => bnd (f_Table_put 12 r89 0 x1 σ89) (fun _ σ102 => bnd (f_Table_put 12 r89 1 x2 σ102) (fun _ σ113 => bnd (f_Table_put 12 r89 2 x3 σ113) (fun _ σ124 => some ((x4 + 1), (sF σ124 66 1)))))) else some ((-2), σ) else some ((-1), σ)
set_option maxHeartbeats 4000000 in
set_option maxRecDepth 100000 in
theorem w_Rolls_addEntry_68 (C : Cx g p s m args meth c A 7 cX7_addEntry yX7_addEntry.cls) (hr : meth.sig.returnType = (some .int))  {res : Int32 × CS}   (x1 : Int32) (x2 : Int32) (x3 : Int32) (x4 : Int32) (x5 : Int32)  (σ : CS) (ta : Nat → Nat) (hφ : φ0 ≤ ph σ.2.2) (hφ2 : ph σ.2.2 ≤ BB) (h : B_Rolls_addEntry_68 x1 x2 x3 x4 x5 σ = some res) : NI g p l e s m args below meth c A 5 222 7 ad Rr φ0 res ta σ [(0, .ref (ad 8)), (1, .int x1), (2, .int x2), (3, .int x3), (4, .int x4), (5, .int x5)] 68 [] := by
  unfold B_Rolls_addEntry_68 at h
  refine nw_iload C dX7_addEntry_68 4 rfl ?_
  refine nw_bipush (v := 8) C dX7_addEntry_70 (by decide) ?_
  refine nw_icmp_lt (tgt := 77) C dX7_addEntry_72 (by decide) h (fun _ h => ?_) (fun _ h => ?_)
  · refine nw_iload C dX7_addEntry_77 5 rfl ?_
    refine nw_if_eq (tgt := 85) C dX7_addEntry_79 (by decide) h (fun _ h => ?_) (fun _ h => ?_)
    · refine nw_aload_n C dX7_addEntry_85 rfl 0 rfl ?_
      refine nw_get (v := .ref (ad 23)) C in_X7 8 cl_Rolls rfl 0 (by decide) tw_429 rfl rfl dX7_addEntry_86 ?_
      refine nc_callVI (q0 := 23) (As := []) (rest := []) C h (fun _ _ e => c_Table_add 12 (by decide) e hφ2) tw_1457 kv_X9_add (cl_T 12 (by decide)) rfl ⟨Nat.le_of_ble_eq_true rfl, Nat.le_of_ble_eq_true rfl⟩ rfl dX7_addEntry_89 rfl (Nat.le_of_ble_eq_true rfl) hφ hφ2 (fun r89 σ89 ta h hφ hφ2 => ?_)
      refine nw_istore (lv' := [(6, .int r89), (0, .ref (ad 8)), (1, .int x1), (2, .int x2), (3, .int x3), (4, .int x4), (5, .int x5)]) C dX7_addEntry_92 (by decide) rfl ?_
      refine nw_aload_n C dX7_addEntry_94 rfl 1 rfl ?_
      refine nw_get (v := .ref (ad 23)) C in_X7 8 cl_Rolls rfl 0 (by decide) tw_429 rfl rfl dX7_addEntry_95 ?_
      refine nw_iload C dX7_addEntry_98 0 rfl ?_
      refine nw_iconst (v := 0) C dX7_addEntry_100 (by decide) ?_
      refine nw_iload_n C dX7_addEntry_101 rfl 2 rfl ?_
      refine nc_callVV (q0 := 23) (As := [.int r89, .int 0, .int x1]) (rest := []) C h (fun _ _ e => c_Table_put 12 (by decide) e hφ2) tw_1458 kv_X9_put (cl_T 12 (by decide)) rfl ⟨Nat.le_of_ble_eq_true rfl, Nat.le_of_ble_eq_true rfl⟩ rfl dX7_addEntry_102 rfl (Nat.le_of_ble_eq_true rfl) hφ hφ2 (fun r102 σ102 ta h hφ hφ2 => ?_)
      refine nw_aload_n C dX7_addEntry_105 rfl 1 rfl ?_
      refine nw_get (v := .ref (ad 23)) C in_X7 8 cl_Rolls rfl 0 (by decide) tw_429 rfl rfl dX7_addEntry_106 ?_
      refine nw_iload C dX7_addEntry_109 0 rfl ?_
      refine nw_iconst (v := 1) C dX7_addEntry_111 (by decide) ?_
      refine nw_iload_n C dX7_addEntry_112 rfl 3 rfl ?_
      refine nc_callVV (q0 := 23) (As := [.int r89, .int 1, .int x2]) (rest := []) C h (fun _ _ e => c_Table_put 12 (by decide) e hφ2) tw_1458 kv_X9_put (cl_T 12 (by decide)) rfl ⟨Nat.le_of_ble_eq_true rfl, Nat.le_of_ble_eq_true rfl⟩ rfl dX7_addEntry_113 rfl (Nat.le_of_ble_eq_true rfl) hφ hφ2 (fun r113 σ113 ta h hφ hφ2 => ?_)
      refine nw_aload_n C dX7_addEntry_116 rfl 1 rfl ?_
      refine nw_get (v := .ref (ad 23)) C in_X7 8 cl_Rolls rfl 0 (by decide) tw_429 rfl rfl dX7_addEntry_117 ?_
      refine nw_iload C dX7_addEntry_120 0 rfl ?_
      refine nw_iconst (v := 2) C dX7_addEntry_122 (by decide) ?_
      refine nw_iload_n C dX7_addEntry_123 rfl 4 rfl ?_
      refine nc_callVV (q0 := 23) (As := [.int r89, .int 2, .int x3]) (rest := []) C h (fun _ _ e => c_Table_put 12 (by decide) e hφ2) tw_1458 kv_X9_put (cl_T 12 (by decide)) rfl ⟨Nat.le_of_ble_eq_true rfl, Nat.le_of_ble_eq_true rfl⟩ rfl dX7_addEntry_124 rfl (Nat.le_of_ble_eq_true rfl) hφ hφ2 (fun r124 σ124 ta h hφ hφ2 => ?_)
      refine nw_aload_n C dX7_addEntry_127 rfl 1 rfl ?_
      refine nw_iconst (v := 1) C dX7_addEntry_128 (by decide) ?_
      refine nw_put (ty := .boolean) C in_X7 8 cl_Rolls rfl 7 (by decide) tyX7 tyX7_ok nmX7 tw_436 rfl rfl (by decide +kernel) (nar_b (Or.inr rfl)) (fit_b (Or.inr rfl)) (Nat.le_of_ble_eq_true rfl) dX7_addEntry_129 cs_Rolls_stale ?_
      refine nw_iload C dX7_addEntry_132 5 rfl ?_
      refine nw_iconst (v := 1) C dX7_addEntry_134 (by decide) ?_
      refine nw_iadd C dX7_addEntry_135 ?_
      exact nc_iret C hr dX7_addEntry_136 hφ hφ2 h
    · refine nw_bipush (v := (-2)) C dX7_addEntry_82 (by decide) ?_
      exact nc_iret C hr dX7_addEntry_84 hφ hφ2 h
  · refine nw_iconst (v := (-1)) C dX7_addEntry_75 (by decide) ?_
    exact nc_iret C hr dX7_addEntry_76 hφ hφ2 h
def f_Rolls_addEntry (p0 : Int32) (p1 : Int32) (p2 : Int32) (σ : CS) : Option (Int32 × CS) := L_Rolls_addEntry_9 (B_Rolls_addEntry_68) p0 p1 p2 FU 0 0 0 σ
set_option maxHeartbeats 4000000 in
set_option maxRecDepth 100000 in
theorem c_Rolls_addEntry {l : Launch} {g : EG} {ad ta : Nat → Nat} {Rr : va_W} {σ σ' : CS} {r : Int32} {p0 : Int32} {p1 : Int32} {p2 : Int32}  (h : f_Rolls_addEntry p0 p1 p2 σ = some (r, σ')) (hφ2 : ph σ.2.2 ≤ BB) : CtI l g yX7_addEntry (.code yX7_addEntry cX7_addEntry 7 (some .int)) 5 222 ad ta Rr σ [.ref (ad 8), .int p0, .int p1, .int p2] r σ' := by
  refine Ct.of rfl (by decide) (Nat.le_of_ble_eq_true rfl) ?_
  intro p e s m args below meth c A C hr
  have hφ : ph σ.2.2 ≤ ph σ.2.2 := Nat.le_refl _
  refine nw_zero (ph σ.2.2) ?_
  show NI g p l e s m args below meth c A 5 222 7 ad Rr (ph σ.2.2) (r, σ') ta σ [(0, .ref (ad 8)), (1, .int p0), (2, .int p1), (3, .int p2)] 0 []
  unfold f_Rolls_addEntry at h
  refine nw_iconst (v := 0) C dX7_addEntry_0 (by decide) ?_
  refine nw_istore (lv' := [(4, .int 0), (0, .ref (ad 8)), (1, .int p0), (2, .int p1), (3, .int p2)]) C dX7_addEntry_1 (by decide) rfl ?_
  refine nw_iconst (v := 0) C dX7_addEntry_3 (by decide) ?_
  refine nw_istore (lv' := [(5, .int 0), (4, .int 0), (0, .ref (ad 8)), (1, .int p0), (2, .int p1), (3, .int p2)]) C dX7_addEntry_4 (by decide) rfl ?_
  refine nw_iconst (v := 0) C dX7_addEntry_6 (by decide) ?_
  refine nw_istore (lv' := [(6, .int 0), (5, .int 0), (4, .int 0), (0, .ref (ad 8)), (1, .int p0), (2, .int p1), (3, .int p2)]) C dX7_addEntry_7 (by decide) rfl ?_
  exact nw_lv (lv' := [(0, .ref (ad 8)), (1, .int p0), (2, .int p1), (3, .int p2), (4, .int 0), (5, .int 0), (6, .int 0)]) [3, 4, 5, 6, 2, 1, 0] rfl (w_Rolls_addEntry_9 C hr p0 p1 p2 (fun x1_ x2_ x3_ x4_ x5_ σ_ ta_ hφ_ hφ2_ h_ => w_Rolls_addEntry_68 C hr x1_ x2_ x3_ x4_ x5_ σ_ ta_ hφ_ hφ2_ h_) FU 0 0 0 _ _ hφ hφ2 h)
theorem dX7_entryAt_0 : decode cX7_entryAt 0 = .ok (.aload_n 0, 1) := by decide +kernel
theorem dX7_entryAt_1 : decode cX7_entryAt 1 = .ok (.invokevirtual 52, 3) := by decide +kernel
theorem dX7_entryAt_4 : decode cX7_entryAt 4 = .ok (.aload_n 0, 1) := by decide +kernel
theorem dX7_entryAt_5 : decode cX7_entryAt 5 = .ok (.getfield 55, 3) := by decide +kernel
theorem dX7_entryAt_8 : decode cX7_entryAt 8 = .ok (.ifCond .ne 33, 3) := by decide +kernel
theorem dX7_entryAt_11 : decode cX7_entryAt 11 = .ok (.iload_n 1, 1) := by decide +kernel
theorem dX7_entryAt_12 : decode cX7_entryAt 12 = .ok (.ifCond .lt 29, 3) := by decide +kernel
theorem dX7_entryAt_15 : decode cX7_entryAt 15 = .ok (.iload_n 1, 1) := by decide +kernel
theorem dX7_entryAt_16 : decode cX7_entryAt 16 = .ok (.aload_n 0, 1) := by decide +kernel
theorem dX7_entryAt_17 : decode cX7_entryAt 17 = .ok (.getfield 58, 3) := by decide +kernel
theorem dX7_entryAt_20 : decode cX7_entryAt 20 = .ok (.if_icmp .ge 21, 3) := by decide +kernel
theorem dX7_entryAt_23 : decode cX7_entryAt 23 = .ok (.iload_n 1, 1) := by decide +kernel
theorem dX7_entryAt_24 : decode cX7_entryAt 24 = .ok (.aload_n 0, 1) := by decide +kernel
theorem dX7_entryAt_25 : decode cX7_entryAt 25 = .ok (.getfield 30, 3) := by decide +kernel
theorem dX7_entryAt_28 : decode cX7_entryAt 28 = .ok (.arraylength, 1) := by decide +kernel
theorem dX7_entryAt_29 : decode cX7_entryAt 29 = .ok (.if_icmp .ge 12, 3) := by decide +kernel
theorem dX7_entryAt_32 : decode cX7_entryAt 32 = .ok (.aload_n 0, 1) := by decide +kernel
theorem dX7_entryAt_33 : decode cX7_entryAt 33 = .ok (.getfield 30, 3) := by decide +kernel
theorem dX7_entryAt_36 : decode cX7_entryAt 36 = .ok (.iload_n 1, 1) := by decide +kernel
theorem dX7_entryAt_37 : decode cX7_entryAt 37 = .ok (.iaload, 1) := by decide +kernel
theorem dX7_entryAt_38 : decode cX7_entryAt 38 = .ok (.goto 4, 3) := by decide +kernel
theorem dX7_entryAt_41 : decode cX7_entryAt 41 = .ok (.iconst (-1), 1) := by decide +kernel
theorem dX7_entryAt_42 : decode cX7_entryAt 42 = .ok (.ireturn, 1) := by decide +kernel
def f_Rolls_entryAt (p0 : Int32) (σ : CS) : Option (Int32 × CS) := bnd (f_Rolls_join σ) (fun _ σ1 => if (σ1.1 65) = 0 then if p0 < 0 then some ((-1), σ1) else if (σ1.1 64) ≤ p0 then some ((-1), σ1) else if 8 ≤ p0 then some ((-1), σ1) else gix p0 8 (some ((rd σ1 26 p0), σ1)) else some ((-1), σ1))
set_option maxHeartbeats 4000000 in
set_option maxRecDepth 100000 in
theorem c_Rolls_entryAt {l : Launch} {g : EG} {ad ta : Nat → Nat} {Rr : va_W} {σ σ' : CS} {r : Int32} {p0 : Int32}  (h : f_Rolls_entryAt p0 σ = some (r, σ')) (hφ2 : ph σ.2.2 ≤ BB) : CtI l g yX7_entryAt (.code yX7_entryAt cX7_entryAt 2 (some .int)) 4 88 ad ta Rr σ [.ref (ad 8), .int p0] r σ' := by
  refine Ct.of rfl (by decide) (Nat.le_of_ble_eq_true rfl) ?_
  intro p e s m args below meth c A C hr
  have hφ : ph σ.2.2 ≤ ph σ.2.2 := Nat.le_refl _
  refine nw_zero (ph σ.2.2) ?_
  show NI g p l e s m args below meth c A 4 88 2 ad Rr (ph σ.2.2) (r, σ') ta σ [(0, .ref (ad 8)), (1, .int p0)] 0 []
  unfold f_Rolls_entryAt at h
  refine nw_aload_n C dX7_entryAt_0 rfl 0 rfl ?_
  refine nc_callVV (q0 := 8) (As := []) (rest := []) C h (fun _ _ e => c_Rolls_join e hφ2) tw_579 kv_X7_join cl_Rolls rfl ⟨Nat.le_of_ble_eq_true rfl, Nat.le_of_ble_eq_true rfl⟩ rfl dX7_entryAt_1 rfl (Nat.le_of_ble_eq_true rfl) hφ hφ2 (fun r1 σ1 ta h hφ hφ2 => ?_)
  refine nw_aload_n C dX7_entryAt_4 rfl 0 rfl ?_
  refine nw_get (v := .int (σ1.1 65)) C in_X7 8 cl_Rolls rfl 6 (by decide) tw_435 rfl rfl dX7_entryAt_5 ?_
  refine nw_if_ne (tgt := 41) C dX7_entryAt_8 (by decide) h (fun _ h => ?_) (fun _ h => ?_)
  · refine nw_iload_n C dX7_entryAt_11 rfl 1 rfl ?_
    refine nw_if_lt (tgt := 41) C dX7_entryAt_12 (by decide) h (fun _ h => ?_) (fun _ h => ?_)
    · refine nw_iconst (v := (-1)) C dX7_entryAt_41 (by decide) ?_
      exact nc_iret C hr dX7_entryAt_42 hφ hφ2 h
    · refine nw_iload_n C dX7_entryAt_15 rfl 1 rfl ?_
      refine nw_aload_n C dX7_entryAt_16 rfl 0 rfl ?_
      refine nw_get (v := .int (σ1.1 64)) C in_X7 8 cl_Rolls rfl 5 (by decide) tw_434 rfl rfl dX7_entryAt_17 ?_
      refine nw_icmp_ge (tgt := 41) C dX7_entryAt_20 (by decide) h (fun _ h => ?_) (fun _ h => ?_)
      · refine nw_iconst (v := (-1)) C dX7_entryAt_41 (by decide) ?_
        exact nc_iret C hr dX7_entryAt_42 hφ hφ2 h
      · refine nw_iload_n C dX7_entryAt_23 rfl 1 rfl ?_
        refine nw_aload_n C dX7_entryAt_24 rfl 0 rfl ?_
        refine nw_get (v := .ref (ad 53)) C in_X7 8 cl_Rolls rfl 4 (by decide) tw_433 rfl rfl dX7_entryAt_25 ?_
        refine nw_alenI C 53 (cl_I 26 rfl) dX7_entryAt_28 ?_
        refine nw_st (st' := [.int 8, .int p0]) rfl ?_
        refine nw_icmp_ge (tgt := 41) C dX7_entryAt_29 (by decide) h (fun _ h => ?_) (fun _ h => ?_)
        · refine nw_iconst (v := (-1)) C dX7_entryAt_41 (by decide) ?_
          exact nc_iret C hr dX7_entryAt_42 hφ hφ2 h
        · refine nw_aload_n C dX7_entryAt_32 rfl 0 rfl ?_
          refine nw_get (v := .ref (ad 53)) C in_X7 8 cl_Rolls rfl 4 (by decide) tw_433 rfl rfl dX7_entryAt_33 ?_
          refine nw_iload_n C dX7_entryAt_36 rfl 1 rfl ?_
          refine nw_iald C 53 (cl_I 26 rfl) dX7_entryAt_37 h (fun h => ?_)
          refine nw_goto (tgt := 42) C dX7_entryAt_38 (by decide) ?_
          exact nc_iret C hr dX7_entryAt_42 hφ hφ2 h
  · refine nw_iconst (v := (-1)) C dX7_entryAt_41 (by decide) ?_
    exact nc_iret C hr dX7_entryAt_42 hφ hφ2 h
theorem dX7_apartFrom_0 : decode cX7_apartFrom 0 = .ok (.iconst 0, 1) := by decide +kernel
theorem dX7_apartFrom_1 : decode cX7_apartFrom 1 = .ok (.istore_n 3, 1) := by decide +kernel
theorem dX7_apartFrom_2 : decode cX7_apartFrom 2 = .ok (.iconst 0, 1) := by decide +kernel
theorem dX7_apartFrom_3 : decode cX7_apartFrom 3 = .ok (.istore 4, 2) := by decide +kernel
theorem dX7_apartFrom_5 : decode cX7_apartFrom 5 = .ok (.iload 4, 2) := by decide +kernel
theorem dX7_apartFrom_7 : decode cX7_apartFrom 7 = .ok (.aload_n 0, 1) := by decide +kernel
theorem dX7_apartFrom_8 : decode cX7_apartFrom 8 = .ok (.getfield 16, 3) := by decide +kernel
theorem dX7_apartFrom_11 : decode cX7_apartFrom 11 = .ok (.invokevirtual 33, 3) := by decide +kernel
theorem dX7_apartFrom_14 : decode cX7_apartFrom 14 = .ok (.if_icmp .ge 41, 3) := by decide +kernel
theorem dX7_apartFrom_17 : decode cX7_apartFrom 17 = .ok (.aload_n 0, 1) := by decide +kernel
theorem dX7_apartFrom_18 : decode cX7_apartFrom 18 = .ok (.getfield 16, 3) := by decide +kernel
theorem dX7_apartFrom_21 : decode cX7_apartFrom 21 = .ok (.iload 4, 2) := by decide +kernel
theorem dX7_apartFrom_23 : decode cX7_apartFrom 23 = .ok (.iconst 1, 1) := by decide +kernel
theorem dX7_apartFrom_24 : decode cX7_apartFrom 24 = .ok (.invokevirtual 37, 3) := by decide +kernel
theorem dX7_apartFrom_27 : decode cX7_apartFrom 27 = .ok (.iload_n 1, 1) := by decide +kernel
theorem dX7_apartFrom_28 : decode cX7_apartFrom 28 = .ok (.if_icmp .ne 21, 3) := by decide +kernel
theorem dX7_apartFrom_31 : decode cX7_apartFrom 31 = .ok (.iload_n 3, 1) := by decide +kernel
theorem dX7_apartFrom_32 : decode cX7_apartFrom 32 = .ok (.aload_n 0, 1) := by decide +kernel
theorem dX7_apartFrom_33 : decode cX7_apartFrom 33 = .ok (.getfield 16, 3) := by decide +kernel
theorem dX7_apartFrom_36 : decode cX7_apartFrom 36 = .ok (.iload 4, 2) := by decide +kernel
theorem dX7_apartFrom_38 : decode cX7_apartFrom 38 = .ok (.iconst 2, 1) := by decide +kernel
theorem dX7_apartFrom_39 : decode cX7_apartFrom 39 = .ok (.invokevirtual 37, 3) := by decide +kernel
theorem dX7_apartFrom_42 : decode cX7_apartFrom 42 = .ok (.iload_n 2, 1) := by decide +kernel
theorem dX7_apartFrom_43 : decode cX7_apartFrom 43 = .ok (.isub, 1) := by decide +kernel
theorem dX7_apartFrom_44 : decode cX7_apartFrom 44 = .ok (.invokestatic 68, 3) := by decide +kernel
theorem dX7_apartFrom_47 : decode cX7_apartFrom 47 = .ok (.iadd, 1) := by decide +kernel
theorem dX7_apartFrom_48 : decode cX7_apartFrom 48 = .ok (.istore_n 3, 1) := by decide +kernel
theorem dX7_apartFrom_49 : decode cX7_apartFrom 49 = .ok (.iinc 4 1, 3) := by decide +kernel
theorem dX7_apartFrom_52 : decode cX7_apartFrom 52 = .ok (.goto (-47), 3) := by decide +kernel
theorem dX7_apartFrom_55 : decode cX7_apartFrom 55 = .ok (.iload_n 3, 1) := by decide +kernel
theorem dX7_apartFrom_56 : decode cX7_apartFrom 56 = .ok (.ireturn, 1) := by decide +kernel
def L_Rolls_apartFrom_5  (x1 : Int32) (x2 : Int32) : Nat → Int32 → Int32 → CS → Option (Int32 × CS)
  | 0, _, _, _ => none
  | n + 1, x3, x4, σ => bnd (f_Table_size 12 σ) (fun r11 σ11 => if r11 ≤ x4 then some (x3, σ11) else bnd (f_Table_get 12 x4 1 σ11) (fun r24 σ24 => if r24 = x1 then bnd (f_Table_get 12 x4 2 σ24) (fun r39 σ39 => (L_Rolls_apartFrom_5 x1 x2 n) (x3 + (if 0 ≤ (r39 - x2) then (r39 - x2) else 0 - (r39 - x2))) (x4 + 1) σ39) else (L_Rolls_apartFrom_5 x1 x2 n) x3 (x4 + 1) σ24))
set_option maxHeartbeats 4000000 in
set_option maxRecDepth 100000 in
theorem w_Rolls_apartFrom_5 (C : Cx g p s m args meth c A 5 cX7_apartFrom yX7_apartFrom.cls) (hr : meth.sig.returnType = (some .int))  {res : Int32 × CS}  (x1 : Int32) (x2 : Int32)  : ∀ (n : Nat) (x3 : Int32) (x4 : Int32) (σ : CS) (ta : Nat → Nat), φ0 ≤ ph σ.2.2 → ph σ.2.2 ≤ BB → L_Rolls_apartFrom_5 x1 x2 n x3 x4 σ = some res → NI g p l e s m args below meth c A 1 40 5 ad Rr φ0 res ta σ [(0, .ref (ad 8)), (1, .int x1), (2, .int x2), (3, .int x3), (4, .int x4)] 5 [] := by
  intro n
  induction n with
  | zero =>
    intro x3 x4 σ ta hφ hφ2 h
    exact absurd (show (none : Option (Int32 × CS)) = some res from h) (by intro h9; cases h9)
  | succ n ih =>
    intro x3 x4 σ ta hφ hφ2 h
    rw [L_Rolls_apartFrom_5] at h
    refine nw_iload C dX7_apartFrom_5 4 rfl ?_
    refine nw_aload_n C dX7_apartFrom_7 rfl 0 rfl ?_
    refine nw_get (v := .ref (ad 23)) C in_X7 8 cl_Rolls rfl 0 (by decide) tw_429 rfl rfl dX7_apartFrom_8 ?_
    refine nc_callVI (q0 := 23) (As := []) (rest := [.int x4]) C h (fun _ _ e => c_Table_size 12 (by decide) e hφ2) tw_587 kv_X9_size (cl_T 12 (by decide)) rfl ⟨Nat.le_of_ble_eq_true rfl, Nat.le_of_ble_eq_true rfl⟩ rfl dX7_apartFrom_11 rfl (Nat.le_of_ble_eq_true rfl) hφ hφ2 (fun r11 σ11 ta h hφ hφ2 => ?_)
    refine nw_icmp_ge (tgt := 55) C dX7_apartFrom_14 (by decide) h (fun _ h => ?_) (fun _ h => ?_)
    · refine nw_iload_n C dX7_apartFrom_55 rfl 3 rfl ?_
      exact nc_iret C hr dX7_apartFrom_56 hφ hφ2 h
    · refine nw_aload_n C dX7_apartFrom_17 rfl 0 rfl ?_
      refine nw_get (v := .ref (ad 23)) C in_X7 8 cl_Rolls rfl 0 (by decide) tw_429 rfl rfl dX7_apartFrom_18 ?_
      refine nw_iload C dX7_apartFrom_21 4 rfl ?_
      refine nw_iconst (v := 1) C dX7_apartFrom_23 (by decide) ?_
      refine nc_callVI (q0 := 23) (As := [.int x4, .int 1]) (rest := []) C h (fun _ _ e => c_Table_get 12 (by decide) e hφ2) tw_588 kv_X9_get (cl_T 12 (by decide)) rfl ⟨Nat.le_of_ble_eq_true rfl, Nat.le_of_ble_eq_true rfl⟩ rfl dX7_apartFrom_24 rfl (Nat.le_of_ble_eq_true rfl) hφ hφ2 (fun r24 σ24 ta h hφ hφ2 => ?_)
      refine nw_iload_n C dX7_apartFrom_27 rfl 1 rfl ?_
      refine nw_icmp_ne (tgt := 49) C dX7_apartFrom_28 (by decide) h (fun _ h => ?_) (fun _ h => ?_)
      · refine nw_iload_n C dX7_apartFrom_31 rfl 3 rfl ?_
        refine nw_aload_n C dX7_apartFrom_32 rfl 0 rfl ?_
        refine nw_get (v := .ref (ad 23)) C in_X7 8 cl_Rolls rfl 0 (by decide) tw_429 rfl rfl dX7_apartFrom_33 ?_
        refine nw_iload C dX7_apartFrom_36 4 rfl ?_
        refine nw_iconst (v := 2) C dX7_apartFrom_38 (by decide) ?_
        refine nc_callVI (q0 := 23) (As := [.int x4, .int 2]) (rest := [.int x3]) C h (fun _ _ e => c_Table_get 12 (by decide) e hφ2) tw_588 kv_X9_get (cl_T 12 (by decide)) rfl ⟨Nat.le_of_ble_eq_true rfl, Nat.le_of_ble_eq_true rfl⟩ rfl dX7_apartFrom_39 rfl (Nat.le_of_ble_eq_true rfl) hφ hφ2 (fun r39 σ39 ta h hφ hφ2 => ?_)
        refine nw_iload_n C dX7_apartFrom_42 rfl 2 rfl ?_
        refine nw_isub C dX7_apartFrom_43 ?_
        refine nw_mabs C tw_1479 tw_651 tw_125 tm_abs (Nat.le_of_ble_eq_true rfl) (Nat.le_of_ble_eq_true rfl) (Nat.sub_le_sub_right hφ2 _) (Nat.mul_le_mul_left 2 (Nat.sub_le_sub_right hφ2 _)) dX7_apartFrom_44 ?_
        refine nw_iadd C dX7_apartFrom_47 ?_
        refine nw_istore_n (lv' := [(3, .int (x3 + (if 0 ≤ (r39 - x2) then (r39 - x2) else 0 - (r39 - x2)))), (0, .ref (ad 8)), (1, .int x1), (2, .int x2), (4, .int x4)]) C dX7_apartFrom_48 rfl (by decide) rfl ?_
        refine nw_iinc (lv' := [(4, .int (x4 + 1)), (3, .int (x3 + (if 0 ≤ (r39 - x2) then (r39 - x2) else 0 - (r39 - x2)))), (0, .ref (ad 8)), (1, .int x1), (2, .int x2)]) C (x4 + 1) dX7_apartFrom_49 4 rfl rfl (by decide) rfl ?_
        refine nw_goto (tgt := 5) C dX7_apartFrom_52 (by decide) ?_
        exact nw_lv (lv' := [(0, .ref (ad 8)), (1, .int x1), (2, .int x2), (3, .int (x3 + (if 0 ≤ (r39 - x2) then (r39 - x2) else 0 - (r39 - x2)))), (4, .int (x4 + 1))]) [2, 3, 4, 1, 0] rfl (ih (x3 + (if 0 ≤ (r39 - x2) then (r39 - x2) else 0 - (r39 - x2))) (x4 + 1) _ _ hφ hφ2 h)
      · refine nw_iinc (lv' := [(4, .int (x4 + 1)), (0, .ref (ad 8)), (1, .int x1), (2, .int x2), (3, .int x3)]) C (x4 + 1) dX7_apartFrom_49 4 rfl rfl (by decide) rfl ?_
        refine nw_goto (tgt := 5) C dX7_apartFrom_52 (by decide) ?_
        exact nw_lv (lv' := [(0, .ref (ad 8)), (1, .int x1), (2, .int x2), (3, .int x3), (4, .int (x4 + 1))]) [1, 2, 3, 4, 0] rfl (ih x3 (x4 + 1) _ _ hφ hφ2 h)
def f_Rolls_apartFrom (p0 : Int32) (p1 : Int32) (σ : CS) : Option (Int32 × CS) := L_Rolls_apartFrom_5 p0 p1 FU 0 0 σ
set_option maxHeartbeats 4000000 in
set_option maxRecDepth 100000 in
theorem c_Rolls_apartFrom {l : Launch} {g : EG} {ad ta : Nat → Nat} {Rr : va_W} {σ σ' : CS} {r : Int32} {p0 : Int32} {p1 : Int32}  (h : f_Rolls_apartFrom p0 p1 σ = some (r, σ')) (hφ2 : ph σ.2.2 ≤ BB) : CtI l g yX7_apartFrom (.code yX7_apartFrom cX7_apartFrom 5 (some .int)) 1 40 ad ta Rr σ [.ref (ad 8), .int p0, .int p1] r σ' := by
  refine Ct.of rfl (by decide) (Nat.le_of_ble_eq_true rfl) ?_
  intro p e s m args below meth c A C hr
  have hφ : ph σ.2.2 ≤ ph σ.2.2 := Nat.le_refl _
  refine nw_zero (ph σ.2.2) ?_
  show NI g p l e s m args below meth c A 1 40 5 ad Rr (ph σ.2.2) (r, σ') ta σ [(0, .ref (ad 8)), (1, .int p0), (2, .int p1)] 0 []
  unfold f_Rolls_apartFrom at h
  refine nw_iconst (v := 0) C dX7_apartFrom_0 (by decide) ?_
  refine nw_istore_n (lv' := [(3, .int 0), (0, .ref (ad 8)), (1, .int p0), (2, .int p1)]) C dX7_apartFrom_1 rfl (by decide) rfl ?_
  refine nw_iconst (v := 0) C dX7_apartFrom_2 (by decide) ?_
  refine nw_istore (lv' := [(4, .int 0), (3, .int 0), (0, .ref (ad 8)), (1, .int p0), (2, .int p1)]) C dX7_apartFrom_3 (by decide) rfl ?_
  exact nw_lv (lv' := [(0, .ref (ad 8)), (1, .int p0), (2, .int p1), (3, .int 0), (4, .int 0)]) [2, 3, 4, 1, 0] rfl (w_Rolls_apartFrom_5 C hr p0 p1 FU 0 0 _ _ hφ hφ2 h)
theorem dX7_sumAt_0 : decode cX7_sumAt 0 = .ok (.aload_n 0, 1) := by decide +kernel
theorem dX7_sumAt_1 : decode cX7_sumAt 1 = .ok (.iload_n 1, 1) := by decide +kernel
theorem dX7_sumAt_2 : decode cX7_sumAt 2 = .ok (.invokevirtual 61, 3) := by decide +kernel
theorem dX7_sumAt_5 : decode cX7_sumAt 5 = .ok (.istore_n 2, 1) := by decide +kernel
theorem dX7_sumAt_6 : decode cX7_sumAt 6 = .ok (.iconst (-1), 1) := by decide +kernel
theorem dX7_sumAt_7 : decode cX7_sumAt 7 = .ok (.istore_n 3, 1) := by decide +kernel
theorem dX7_sumAt_8 : decode cX7_sumAt 8 = .ok (.iconst 0, 1) := by decide +kernel
theorem dX7_sumAt_9 : decode cX7_sumAt 9 = .ok (.istore 4, 2) := by decide +kernel
theorem dX7_sumAt_11 : decode cX7_sumAt 11 = .ok (.iconst 0, 1) := by decide +kernel
theorem dX7_sumAt_12 : decode cX7_sumAt 12 = .ok (.istore 5, 2) := by decide +kernel
theorem dX7_sumAt_14 : decode cX7_sumAt 14 = .ok (.iload 5, 2) := by decide +kernel
theorem dX7_sumAt_16 : decode cX7_sumAt 16 = .ok (.aload_n 0, 1) := by decide +kernel
theorem dX7_sumAt_17 : decode cX7_sumAt 17 = .ok (.getfield 16, 3) := by decide +kernel
theorem dX7_sumAt_20 : decode cX7_sumAt 20 = .ok (.invokevirtual 33, 3) := by decide +kernel
theorem dX7_sumAt_23 : decode cX7_sumAt 23 = .ok (.if_icmp .ge 84, 3) := by decide +kernel
theorem dX7_sumAt_26 : decode cX7_sumAt 26 = .ok (.iload_n 2, 1) := by decide +kernel
theorem dX7_sumAt_27 : decode cX7_sumAt 27 = .ok (.iconst (-1), 1) := by decide +kernel
theorem dX7_sumAt_28 : decode cX7_sumAt 28 = .ok (.if_icmp .eq 73, 3) := by decide +kernel
theorem dX7_sumAt_31 : decode cX7_sumAt 31 = .ok (.aload_n 0, 1) := by decide +kernel
theorem dX7_sumAt_32 : decode cX7_sumAt 32 = .ok (.getfield 16, 3) := by decide +kernel
theorem dX7_sumAt_35 : decode cX7_sumAt 35 = .ok (.iload 5, 2) := by decide +kernel
theorem dX7_sumAt_37 : decode cX7_sumAt 37 = .ok (.iconst 1, 1) := by decide +kernel
theorem dX7_sumAt_38 : decode cX7_sumAt 38 = .ok (.invokevirtual 37, 3) := by decide +kernel
theorem dX7_sumAt_41 : decode cX7_sumAt 41 = .ok (.iload_n 2, 1) := by decide +kernel
theorem dX7_sumAt_42 : decode cX7_sumAt 42 = .ok (.if_icmp .eq 6, 3) := by decide +kernel
theorem dX7_sumAt_45 : decode cX7_sumAt 45 = .ok (.goto 56, 3) := by decide +kernel
theorem dX7_sumAt_48 : decode cX7_sumAt 48 = .ok (.aload_n 0, 1) := by decide +kernel
theorem dX7_sumAt_49 : decode cX7_sumAt 49 = .ok (.getfield 16, 3) := by decide +kernel
theorem dX7_sumAt_52 : decode cX7_sumAt 52 = .ok (.iload 5, 2) := by decide +kernel
theorem dX7_sumAt_54 : decode cX7_sumAt 54 = .ok (.iconst 2, 1) := by decide +kernel
theorem dX7_sumAt_55 : decode cX7_sumAt 55 = .ok (.invokevirtual 37, 3) := by decide +kernel
theorem dX7_sumAt_58 : decode cX7_sumAt 58 = .ok (.istore 6, 2) := by decide +kernel
theorem dX7_sumAt_60 : decode cX7_sumAt 60 = .ok (.aload_n 0, 1) := by decide +kernel
theorem dX7_sumAt_61 : decode cX7_sumAt 61 = .ok (.iload_n 2, 1) := by decide +kernel
theorem dX7_sumAt_62 : decode cX7_sumAt 62 = .ok (.iload 6, 2) := by decide +kernel
theorem dX7_sumAt_64 : decode cX7_sumAt 64 = .ok (.invokevirtual 65, 3) := by decide +kernel
theorem dX7_sumAt_67 : decode cX7_sumAt 67 = .ok (.istore 7, 2) := by decide +kernel
theorem dX7_sumAt_69 : decode cX7_sumAt 69 = .ok (.iload_n 3, 1) := by decide +kernel
theorem dX7_sumAt_70 : decode cX7_sumAt 70 = .ok (.iconst (-1), 1) := by decide +kernel
theorem dX7_sumAt_71 : decode cX7_sumAt 71 = .ok (.if_icmp .eq 23, 3) := by decide +kernel
theorem dX7_sumAt_74 : decode cX7_sumAt 74 = .ok (.iload 7, 2) := by decide +kernel
theorem dX7_sumAt_76 : decode cX7_sumAt 76 = .ok (.iload 4, 2) := by decide +kernel
theorem dX7_sumAt_78 : decode cX7_sumAt 78 = .ok (.if_icmp .lt 16, 3) := by decide +kernel
theorem dX7_sumAt_81 : decode cX7_sumAt 81 = .ok (.iload 7, 2) := by decide +kernel
theorem dX7_sumAt_83 : decode cX7_sumAt 83 = .ok (.iload 4, 2) := by decide +kernel
theorem dX7_sumAt_85 : decode cX7_sumAt 85 = .ok (.if_icmp .ne 16, 3) := by decide +kernel
theorem dX7_sumAt_88 : decode cX7_sumAt 88 = .ok (.iload 6, 2) := by decide +kernel
theorem dX7_sumAt_90 : decode cX7_sumAt 90 = .ok (.iload_n 3, 1) := by decide +kernel
theorem dX7_sumAt_91 : decode cX7_sumAt 91 = .ok (.if_icmp .ge 10, 3) := by decide +kernel
theorem dX7_sumAt_94 : decode cX7_sumAt 94 = .ok (.iload 6, 2) := by decide +kernel
theorem dX7_sumAt_96 : decode cX7_sumAt 96 = .ok (.istore_n 3, 1) := by decide +kernel
theorem dX7_sumAt_97 : decode cX7_sumAt 97 = .ok (.iload 7, 2) := by decide +kernel
theorem dX7_sumAt_99 : decode cX7_sumAt 99 = .ok (.istore 4, 2) := by decide +kernel
theorem dX7_sumAt_101 : decode cX7_sumAt 101 = .ok (.iinc 5 1, 3) := by decide +kernel
theorem dX7_sumAt_104 : decode cX7_sumAt 104 = .ok (.goto (-90), 3) := by decide +kernel
theorem dX7_sumAt_107 : decode cX7_sumAt 107 = .ok (.iload_n 3, 1) := by decide +kernel
theorem dX7_sumAt_108 : decode cX7_sumAt 108 = .ok (.ireturn, 1) := by decide +kernel
def B_Rolls_sumAt_94 (k14 : Int32 → Int32 → Int32 → CS → Option (Int32 × CS)) (x2 : Int32) (x5 : Int32) (x6 : Int32) (x7 : Int32) (σ : CS) : Option (Int32 × CS) := k14 x6 x7 (x5 + 1) σ
set_option maxHeartbeats 4000000 in
set_option maxRecDepth 100000 in
theorem w_Rolls_sumAt_94 (C : Cx g p s m args meth c A 8 cX7_sumAt yX7_sumAt.cls) (hr : meth.sig.returnType = (some .int))  {res : Int32 × CS}  (x2 : Int32) (x5 : Int32) (x6 : Int32) (x7 : Int32) {k14 : Int32 → Int32 → Int32 → CS → Option (Int32 × CS)} (hk14 : ∀ (x3 : Int32) (x4 : Int32) (x5 : Int32) (σ : CS) (ta : Nat → Nat), φ0 ≤ ph σ.2.2 → ph σ.2.2 ≤ BB → k14 x3 x4 x5 σ = some res → NI g p l e s m args below meth c A 5 109 8 ad Rr φ0 res ta σ [(0, .ref (ad 8)), (2, .int x2), (3, .int x3), (4, .int x4), (5, .int x5)] 14 []) (σ : CS) (ta : Nat → Nat) (hφ : φ0 ≤ ph σ.2.2) (hφ2 : ph σ.2.2 ≤ BB) (h : B_Rolls_sumAt_94 k14 x2 x5 x6 x7 σ = some res) : NI g p l e s m args below meth c A 5 109 8 ad Rr φ0 res ta σ [(0, .ref (ad 8)), (2, .int x2), (5, .int x5), (6, .int x6), (7, .int x7)] 94 [] := by
  unfold B_Rolls_sumAt_94 at h
  refine nw_iload C dX7_sumAt_94 3 rfl ?_
  refine nw_istore_n (lv' := [(3, .int x6), (0, .ref (ad 8)), (2, .int x2), (5, .int x5), (6, .int x6), (7, .int x7)]) C dX7_sumAt_96 rfl (by decide) rfl ?_
  refine nw_iload C dX7_sumAt_97 5 rfl ?_
  refine nw_istore (lv' := [(4, .int x7), (3, .int x6), (0, .ref (ad 8)), (2, .int x2), (5, .int x5), (6, .int x6), (7, .int x7)]) C dX7_sumAt_99 (by decide) rfl ?_
  refine nw_iinc (lv' := [(5, .int (x5 + 1)), (4, .int x7), (3, .int x6), (0, .ref (ad 8)), (2, .int x2), (6, .int x6), (7, .int x7)]) C (x5 + 1) dX7_sumAt_101 4 rfl rfl (by decide) rfl ?_
  refine nw_goto (tgt := 14) C dX7_sumAt_104 (by decide) ?_
  exact nw_lv (lv' := [(0, .ref (ad 8)), (2, .int x2), (3, .int x6), (4, .int x7), (5, .int (x5 + 1))]) [3, 4, 2, 1, 0] rfl (hk14 x6 x7 (x5 + 1) _ _ hφ hφ2 h)
def L_Rolls_sumAt_14  (x2 : Int32) : Nat → Int32 → Int32 → Int32 → CS → Option (Int32 × CS)
  | 0, _, _, _, _ => none
  | n + 1, x3, x4, x5, σ => bnd (f_Table_size 12 σ) (fun r20 σ20 => if r20 ≤ x5 then some (x3, σ20) else if x2 = (-1) then (L_Rolls_sumAt_14 x2 n) x3 x4 (x5 + 1) σ20 else bnd (f_Table_get 12 x5 1 σ20) (fun r38 σ38 => if r38 = x2 then bnd (f_Table_get 12 x5 2 σ38) (fun r55 σ55 => bnd (f_Rolls_apartFrom x2 r55 σ55) (fun r64 σ64 => if x3 = (-1) then B_Rolls_sumAt_94 (L_Rolls_sumAt_14 x2 n) x2 x5 r55 r64 σ64 else if r64 < x4 then B_Rolls_sumAt_94 (L_Rolls_sumAt_14 x2 n) x2 x5 r55 r64 σ64 else if r64 = x4 then if x3 ≤ r55 then (L_Rolls_sumAt_14 x2 n) x3 x4 (x5 + 1) σ64 else B_Rolls_sumAt_94 (L_Rolls_sumAt_14 x2 n) x2 x5 r55 r64 σ64 else (L_Rolls_sumAt_14 x2 n) x3 x4 (x5 + 1) σ64)) else (L_Rolls_sumAt_14 x2 n) x3 x4 (x5 + 1) σ38))
set_option maxHeartbeats 4000000 in
set_option maxRecDepth 100000 in
theorem w_Rolls_sumAt_14 (C : Cx g p s m args meth c A 8 cX7_sumAt yX7_sumAt.cls) (hr : meth.sig.returnType = (some .int))  {res : Int32 × CS}  (x2 : Int32)  : ∀ (n : Nat) (x3 : Int32) (x4 : Int32) (x5 : Int32) (σ : CS) (ta : Nat → Nat), φ0 ≤ ph σ.2.2 → ph σ.2.2 ≤ BB → L_Rolls_sumAt_14 x2 n x3 x4 x5 σ = some res → NI g p l e s m args below meth c A 5 109 8 ad Rr φ0 res ta σ [(0, .ref (ad 8)), (2, .int x2), (3, .int x3), (4, .int x4), (5, .int x5)] 14 [] := by
  intro n
  induction n with
  | zero =>
    intro x3 x4 x5 σ ta hφ hφ2 h
    exact absurd (show (none : Option (Int32 × CS)) = some res from h) (by intro h9; cases h9)
  | succ n ih =>
    intro x3 x4 x5 σ ta hφ hφ2 h
    rw [L_Rolls_sumAt_14] at h
    refine nw_iload C dX7_sumAt_14 4 rfl ?_
    refine nw_aload_n C dX7_sumAt_16 rfl 0 rfl ?_
    refine nw_get (v := .ref (ad 23)) C in_X7 8 cl_Rolls rfl 0 (by decide) tw_429 rfl rfl dX7_sumAt_17 ?_
    refine nc_callVI (q0 := 23) (As := []) (rest := [.int x5]) C h (fun _ _ e => c_Table_size 12 (by decide) e hφ2) tw_587 kv_X9_size (cl_T 12 (by decide)) rfl ⟨Nat.le_of_ble_eq_true rfl, Nat.le_of_ble_eq_true rfl⟩ rfl dX7_sumAt_20 rfl (Nat.le_of_ble_eq_true rfl) hφ hφ2 (fun r20 σ20 ta h hφ hφ2 => ?_)
    refine nw_icmp_ge (tgt := 107) C dX7_sumAt_23 (by decide) h (fun _ h => ?_) (fun _ h => ?_)
    · refine nw_iload_n C dX7_sumAt_107 rfl 2 rfl ?_
      exact nc_iret C hr dX7_sumAt_108 hφ hφ2 h
    · refine nw_iload_n C dX7_sumAt_26 rfl 1 rfl ?_
      refine nw_iconst (v := (-1)) C dX7_sumAt_27 (by decide) ?_
      refine nw_icmp_eq (tgt := 101) C dX7_sumAt_28 (by decide) h (fun _ h => ?_) (fun _ h => ?_)
      · refine nw_iinc (lv' := [(5, .int (x5 + 1)), (0, .ref (ad 8)), (2, .int x2), (3, .int x3), (4, .int x4)]) C (x5 + 1) dX7_sumAt_101 4 rfl rfl (by decide) rfl ?_
        refine nw_goto (tgt := 14) C dX7_sumAt_104 (by decide) ?_
        exact nw_lv (lv' := [(0, .ref (ad 8)), (2, .int x2), (3, .int x3), (4, .int x4), (5, .int (x5 + 1))]) [1, 2, 3, 4, 0] rfl (ih x3 x4 (x5 + 1) _ _ hφ hφ2 h)
      · refine nw_aload_n C dX7_sumAt_31 rfl 0 rfl ?_
        refine nw_get (v := .ref (ad 23)) C in_X7 8 cl_Rolls rfl 0 (by decide) tw_429 rfl rfl dX7_sumAt_32 ?_
        refine nw_iload C dX7_sumAt_35 4 rfl ?_
        refine nw_iconst (v := 1) C dX7_sumAt_37 (by decide) ?_
        refine nc_callVI (q0 := 23) (As := [.int x5, .int 1]) (rest := []) C h (fun _ _ e => c_Table_get 12 (by decide) e hφ2) tw_588 kv_X9_get (cl_T 12 (by decide)) rfl ⟨Nat.le_of_ble_eq_true rfl, Nat.le_of_ble_eq_true rfl⟩ rfl dX7_sumAt_38 rfl (Nat.le_of_ble_eq_true rfl) hφ hφ2 (fun r38 σ38 ta h hφ hφ2 => ?_)
        refine nw_iload_n C dX7_sumAt_41 rfl 1 rfl ?_
        refine nw_icmp_eq (tgt := 48) C dX7_sumAt_42 (by decide) h (fun _ h => ?_) (fun _ h => ?_)
        · refine nw_aload_n C dX7_sumAt_48 rfl 0 rfl ?_
          refine nw_get (v := .ref (ad 23)) C in_X7 8 cl_Rolls rfl 0 (by decide) tw_429 rfl rfl dX7_sumAt_49 ?_
          refine nw_iload C dX7_sumAt_52 4 rfl ?_
          refine nw_iconst (v := 2) C dX7_sumAt_54 (by decide) ?_
          refine nc_callVI (q0 := 23) (As := [.int x5, .int 2]) (rest := []) C h (fun _ _ e => c_Table_get 12 (by decide) e hφ2) tw_588 kv_X9_get (cl_T 12 (by decide)) rfl ⟨Nat.le_of_ble_eq_true rfl, Nat.le_of_ble_eq_true rfl⟩ rfl dX7_sumAt_55 rfl (Nat.le_of_ble_eq_true rfl) hφ hφ2 (fun r55 σ55 ta h hφ hφ2 => ?_)
          refine nw_istore (lv' := [(6, .int r55), (0, .ref (ad 8)), (2, .int x2), (3, .int x3), (4, .int x4), (5, .int x5)]) C dX7_sumAt_58 (by decide) rfl ?_
          refine nw_aload_n C dX7_sumAt_60 rfl 1 rfl ?_
          refine nw_iload_n C dX7_sumAt_61 rfl 2 rfl ?_
          refine nw_iload C dX7_sumAt_62 0 rfl ?_
          refine nc_callVI (q0 := 8) (As := [.int x2, .int r55]) (rest := []) C h (fun _ _ e => c_Rolls_apartFrom e hφ2) tw_1475 kv_X7_apartFrom cl_Rolls rfl ⟨Nat.le_of_ble_eq_true rfl, Nat.le_of_ble_eq_true rfl⟩ rfl dX7_sumAt_64 rfl (Nat.le_of_ble_eq_true rfl) hφ hφ2 (fun r64 σ64 ta h hφ hφ2 => ?_)
          refine nw_istore (lv' := [(7, .int r64), (6, .int r55), (0, .ref (ad 8)), (2, .int x2), (3, .int x3), (4, .int x4), (5, .int x5)]) C dX7_sumAt_67 (by decide) rfl ?_
          refine nw_iload_n C dX7_sumAt_69 rfl 4 rfl ?_
          refine nw_iconst (v := (-1)) C dX7_sumAt_70 (by decide) ?_
          refine nw_icmp_eq (tgt := 94) C dX7_sumAt_71 (by decide) h (fun _ h => ?_) (fun _ h => ?_)
          · exact nw_lv (lv' := [(0, .ref (ad 8)), (2, .int x2), (5, .int x5), (6, .int r55), (7, .int r64)]) [2, 3, 6, 1, 0] rfl (w_Rolls_sumAt_94 C hr x2 x5 r55 r64 ih _ _ hφ hφ2 h)
          · refine nw_iload C dX7_sumAt_74 0 rfl ?_
            refine nw_iload C dX7_sumAt_76 5 rfl ?_
            refine nw_icmp_lt (tgt := 94) C dX7_sumAt_78 (by decide) h (fun _ h => ?_) (fun _ h => ?_)
            · exact nw_lv (lv' := [(0, .ref (ad 8)), (2, .int x2), (5, .int x5), (6, .int r55), (7, .int r64)]) [2, 3, 6, 1, 0] rfl (w_Rolls_sumAt_94 C hr x2 x5 r55 r64 ih _ _ hφ hφ2 h)
            · refine nw_iload C dX7_sumAt_81 0 rfl ?_
              refine nw_iload C dX7_sumAt_83 5 rfl ?_
              refine nw_icmp_ne (tgt := 101) C dX7_sumAt_85 (by decide) h (fun _ h => ?_) (fun _ h => ?_)
              · refine nw_iload C dX7_sumAt_88 1 rfl ?_
                refine nw_iload_n C dX7_sumAt_90 rfl 4 rfl ?_
                refine nw_icmp_ge (tgt := 101) C dX7_sumAt_91 (by decide) h (fun _ h => ?_) (fun _ h => ?_)
                · refine nw_iinc (lv' := [(5, .int (x5 + 1)), (7, .int r64), (6, .int r55), (0, .ref (ad 8)), (2, .int x2), (3, .int x3), (4, .int x4)]) C (x5 + 1) dX7_sumAt_101 6 rfl rfl (by decide) rfl ?_
                  refine nw_goto (tgt := 14) C dX7_sumAt_104 (by decide) ?_
                  exact nw_lv (lv' := [(0, .ref (ad 8)), (2, .int x2), (3, .int x3), (4, .int x4), (5, .int (x5 + 1))]) [3, 4, 5, 6, 0] rfl (ih x3 x4 (x5 + 1) _ _ hφ hφ2 h)
                · exact nw_lv (lv' := [(0, .ref (ad 8)), (2, .int x2), (5, .int x5), (6, .int r55), (7, .int r64)]) [2, 3, 6, 1, 0] rfl (w_Rolls_sumAt_94 C hr x2 x5 r55 r64 ih _ _ hφ hφ2 h)
              · refine nw_iinc (lv' := [(5, .int (x5 + 1)), (7, .int r64), (6, .int r55), (0, .ref (ad 8)), (2, .int x2), (3, .int x3), (4, .int x4)]) C (x5 + 1) dX7_sumAt_101 6 rfl rfl (by decide) rfl ?_
                refine nw_goto (tgt := 14) C dX7_sumAt_104 (by decide) ?_
                exact nw_lv (lv' := [(0, .ref (ad 8)), (2, .int x2), (3, .int x3), (4, .int x4), (5, .int (x5 + 1))]) [3, 4, 5, 6, 0] rfl (ih x3 x4 (x5 + 1) _ _ hφ hφ2 h)
        · refine nw_goto (tgt := 101) C dX7_sumAt_45 (by decide) ?_
          refine nw_iinc (lv' := [(5, .int (x5 + 1)), (0, .ref (ad 8)), (2, .int x2), (3, .int x3), (4, .int x4)]) C (x5 + 1) dX7_sumAt_101 4 rfl rfl (by decide) rfl ?_
          refine nw_goto (tgt := 14) C dX7_sumAt_104 (by decide) ?_
          exact nw_lv (lv' := [(0, .ref (ad 8)), (2, .int x2), (3, .int x3), (4, .int x4), (5, .int (x5 + 1))]) [1, 2, 3, 4, 0] rfl (ih x3 x4 (x5 + 1) _ _ hφ hφ2 h)
def f_Rolls_sumAt (p0 : Int32) (σ : CS) : Option (Int32 × CS) := bnd (f_Rolls_entryAt p0 σ) (fun r2 σ2 => L_Rolls_sumAt_14 r2 FU (-1) 0 0 σ2)
set_option maxHeartbeats 4000000 in
set_option maxRecDepth 100000 in
theorem c_Rolls_sumAt {l : Launch} {g : EG} {ad ta : Nat → Nat} {Rr : va_W} {σ σ' : CS} {r : Int32} {p0 : Int32}  (h : f_Rolls_sumAt p0 σ = some (r, σ')) (hφ2 : ph σ.2.2 ≤ BB) : CtI l g yX7_sumAt (.code yX7_sumAt cX7_sumAt 8 (some .int)) 5 109 ad ta Rr σ [.ref (ad 8), .int p0] r σ' := by
  refine Ct.of rfl (by decide) (Nat.le_of_ble_eq_true rfl) ?_
  intro p e s m args below meth c A C hr
  have hφ : ph σ.2.2 ≤ ph σ.2.2 := Nat.le_refl _
  refine nw_zero (ph σ.2.2) ?_
  show NI g p l e s m args below meth c A 5 109 8 ad Rr (ph σ.2.2) (r, σ') ta σ [(0, .ref (ad 8)), (1, .int p0)] 0 []
  unfold f_Rolls_sumAt at h
  refine nw_aload_n C dX7_sumAt_0 rfl 0 rfl ?_
  refine nw_iload_n C dX7_sumAt_1 rfl 1 rfl ?_
  refine nc_callVI (q0 := 8) (As := [.int p0]) (rest := []) C h (fun _ _ e => c_Rolls_entryAt e hφ2) tw_1474 kv_X7_entryAt cl_Rolls rfl ⟨Nat.le_of_ble_eq_true rfl, Nat.le_of_ble_eq_true rfl⟩ rfl dX7_sumAt_2 rfl (Nat.le_of_ble_eq_true rfl) hφ hφ2 (fun r2 σ2 ta h hφ hφ2 => ?_)
  refine nw_istore_n (lv' := [(2, .int r2), (0, .ref (ad 8)), (1, .int p0)]) C dX7_sumAt_5 rfl (by decide) rfl ?_
  refine nw_iconst (v := (-1)) C dX7_sumAt_6 (by decide) ?_
  refine nw_istore_n (lv' := [(3, .int (-1)), (2, .int r2), (0, .ref (ad 8)), (1, .int p0)]) C dX7_sumAt_7 rfl (by decide) rfl ?_
  refine nw_iconst (v := 0) C dX7_sumAt_8 (by decide) ?_
  refine nw_istore (lv' := [(4, .int 0), (3, .int (-1)), (2, .int r2), (0, .ref (ad 8)), (1, .int p0)]) C dX7_sumAt_9 (by decide) rfl ?_
  refine nw_iconst (v := 0) C dX7_sumAt_11 (by decide) ?_
  refine nw_istore (lv' := [(5, .int 0), (4, .int 0), (3, .int (-1)), (2, .int r2), (0, .ref (ad 8)), (1, .int p0)]) C dX7_sumAt_12 (by decide) rfl ?_
  exact nw_lv (lv' := [(0, .ref (ad 8)), (2, .int r2), (3, .int (-1)), (4, .int 0), (5, .int 0)]) [4, 3, 2, 1, 0] rfl (w_Rolls_sumAt_14 C hr r2 FU (-1) 0 0 _ _ hφ hφ2 h)
theorem dX8_tryRing_0 : decode cX8_tryRing 0 = .ok (.aload_n 0, 1) := by decide +kernel
theorem dX8_tryRing_1 : decode cX8_tryRing 1 = .ok (.getfield 35, 3) := by decide +kernel
theorem dX8_tryRing_4 : decode cX8_tryRing 4 = .ok (.iconst 3, 1) := by decide +kernel
theorem dX8_tryRing_5 : decode cX8_tryRing 5 = .ok (.if_icmp .lt 33, 3) := by decide +kernel
theorem dX8_tryRing_8 : decode cX8_tryRing 8 = .ok (.aload_n 0, 1) := by decide +kernel
theorem dX8_tryRing_9 : decode cX8_tryRing 9 = .ok (.getfield 35, 3) := by decide +kernel
theorem dX8_tryRing_12 : decode cX8_tryRing 12 = .ok (.aload_n 0, 1) := by decide +kernel
theorem dX8_tryRing_13 : decode cX8_tryRing 13 = .ok (.getfield 19, 3) := by decide +kernel
theorem dX8_tryRing_16 : decode cX8_tryRing 16 = .ok (.arraylength, 1) := by decide +kernel
theorem dX8_tryRing_17 : decode cX8_tryRing 17 = .ok (.if_icmp .gt 21, 3) := by decide +kernel
theorem dX8_tryRing_20 : decode cX8_tryRing 20 = .ok (.aload_n 0, 1) := by decide +kernel
theorem dX8_tryRing_21 : decode cX8_tryRing 21 = .ok (.getfield 9, 3) := by decide +kernel
theorem dX8_tryRing_24 : decode cX8_tryRing 24 = .ok (.aload_n 0, 1) := by decide +kernel
theorem dX8_tryRing_25 : decode cX8_tryRing 25 = .ok (.getfield 19, 3) := by decide +kernel
theorem dX8_tryRing_28 : decode cX8_tryRing 28 = .ok (.aload_n 0, 1) := by decide +kernel
theorem dX8_tryRing_29 : decode cX8_tryRing 29 = .ok (.getfield 35, 3) := by decide +kernel
theorem dX8_tryRing_32 : decode cX8_tryRing 32 = .ok (.invokevirtual 65, 3) := by decide +kernel
theorem dX8_tryRing_35 : decode cX8_tryRing 35 = .ok (.ifCond .ne 4, 3) := by decide +kernel
theorem dX8_tryRing_38 : decode cX8_tryRing 38 = .ok (.return_, 1) := by decide +kernel
theorem dX8_tryRing_39 : decode cX8_tryRing 39 = .ok (.iload_n 1, 1) := by decide +kernel
theorem dX8_tryRing_40 : decode cX8_tryRing 40 = .ok (.aload_n 0, 1) := by decide +kernel
theorem dX8_tryRing_41 : decode cX8_tryRing 41 = .ok (.getfield 9, 3) := by decide +kernel
theorem dX8_tryRing_44 : decode cX8_tryRing 44 = .ok (.aload_n 0, 1) := by decide +kernel
theorem dX8_tryRing_45 : decode cX8_tryRing 45 = .ok (.getfield 19, 3) := by decide +kernel
theorem dX8_tryRing_48 : decode cX8_tryRing 48 = .ok (.aload_n 0, 1) := by decide +kernel
theorem dX8_tryRing_49 : decode cX8_tryRing 49 = .ok (.getfield 35, 3) := by decide +kernel
theorem dX8_tryRing_52 : decode cX8_tryRing 52 = .ok (.iconst 1, 1) := by decide +kernel
theorem dX8_tryRing_53 : decode cX8_tryRing 53 = .ok (.isub, 1) := by decide +kernel
theorem dX8_tryRing_54 : decode cX8_tryRing 54 = .ok (.iaload, 1) := by decide +kernel
theorem dX8_tryRing_55 : decode cX8_tryRing 55 = .ok (.aload_n 0, 1) := by decide +kernel
theorem dX8_tryRing_56 : decode cX8_tryRing 56 = .ok (.getfield 19, 3) := by decide +kernel
theorem dX8_tryRing_59 : decode cX8_tryRing 59 = .ok (.iconst 0, 1) := by decide +kernel
theorem dX8_tryRing_60 : decode cX8_tryRing 60 = .ok (.iaload, 1) := by decide +kernel
theorem dX8_tryRing_61 : decode cX8_tryRing 61 = .ok (.invokevirtual 62, 3) := by decide +kernel
theorem dX8_tryRing_64 : decode cX8_tryRing 64 = .ok (.iadd, 1) := by decide +kernel
theorem dX8_tryRing_65 : decode cX8_tryRing 65 = .ok (.istore_n 2, 1) := by decide +kernel
theorem dX8_tryRing_66 : decode cX8_tryRing 66 = .ok (.aload_n 0, 1) := by decide +kernel
theorem dX8_tryRing_67 : decode cX8_tryRing 67 = .ok (.dup, 1) := by decide +kernel
theorem dX8_tryRing_68 : decode cX8_tryRing 68 = .ok (.getfield 31, 3) := by decide +kernel
theorem dX8_tryRing_71 : decode cX8_tryRing 71 = .ok (.iconst 1, 1) := by decide +kernel
theorem dX8_tryRing_72 : decode cX8_tryRing 72 = .ok (.iadd, 1) := by decide +kernel
theorem dX8_tryRing_73 : decode cX8_tryRing 73 = .ok (.putfield 31, 3) := by decide +kernel
theorem dX8_tryRing_76 : decode cX8_tryRing 76 = .ok (.aload_n 0, 1) := by decide +kernel
theorem dX8_tryRing_77 : decode cX8_tryRing 77 = .ok (.getfield 31, 3) := by decide +kernel
theorem dX8_tryRing_80 : decode cX8_tryRing 80 = .ok (.iconst 1, 1) := by decide +kernel
theorem dX8_tryRing_81 : decode cX8_tryRing 81 = .ok (.if_icmp .eq 11, 3) := by decide +kernel
theorem dX8_tryRing_84 : decode cX8_tryRing 84 = .ok (.iload_n 2, 1) := by decide +kernel
theorem dX8_tryRing_85 : decode cX8_tryRing 85 = .ok (.aload_n 0, 1) := by decide +kernel
theorem dX8_tryRing_86 : decode cX8_tryRing 86 = .ok (.getfield 45, 3) := by decide +kernel
theorem dX8_tryRing_89 : decode cX8_tryRing 89 = .ok (.if_icmp .ge 45, 3) := by decide +kernel
theorem dX8_tryRing_92 : decode cX8_tryRing 92 = .ok (.aload_n 0, 1) := by decide +kernel
theorem dX8_tryRing_93 : decode cX8_tryRing 93 = .ok (.iload_n 2, 1) := by decide +kernel
theorem dX8_tryRing_94 : decode cX8_tryRing 94 = .ok (.putfield 45, 3) := by decide +kernel
theorem dX8_tryRing_97 : decode cX8_tryRing 97 = .ok (.iconst 0, 1) := by decide +kernel
theorem dX8_tryRing_98 : decode cX8_tryRing 98 = .ok (.istore_n 3, 1) := by decide +kernel
theorem dX8_tryRing_99 : decode cX8_tryRing 99 = .ok (.iload_n 3, 1) := by decide +kernel
theorem dX8_tryRing_100 : decode cX8_tryRing 100 = .ok (.aload_n 0, 1) := by decide +kernel
theorem dX8_tryRing_101 : decode cX8_tryRing 101 = .ok (.getfield 35, 3) := by decide +kernel
theorem dX8_tryRing_104 : decode cX8_tryRing 104 = .ok (.if_icmp .ge 30, 3) := by decide +kernel
theorem dX8_tryRing_107 : decode cX8_tryRing 107 = .ok (.iload_n 3, 1) := by decide +kernel
theorem dX8_tryRing_108 : decode cX8_tryRing 108 = .ok (.aload_n 0, 1) := by decide +kernel
theorem dX8_tryRing_109 : decode cX8_tryRing 109 = .ok (.getfield 22, 3) := by decide +kernel
theorem dX8_tryRing_112 : decode cX8_tryRing 112 = .ok (.arraylength, 1) := by decide +kernel
theorem dX8_tryRing_113 : decode cX8_tryRing 113 = .ok (.if_icmp .ge 21, 3) := by decide +kernel
theorem dX8_tryRing_116 : decode cX8_tryRing 116 = .ok (.aload_n 0, 1) := by decide +kernel
theorem dX8_tryRing_117 : decode cX8_tryRing 117 = .ok (.getfield 22, 3) := by decide +kernel
theorem dX8_tryRing_120 : decode cX8_tryRing 120 = .ok (.iload_n 3, 1) := by decide +kernel
theorem dX8_tryRing_121 : decode cX8_tryRing 121 = .ok (.aload_n 0, 1) := by decide +kernel
theorem dX8_tryRing_122 : decode cX8_tryRing 122 = .ok (.getfield 19, 3) := by decide +kernel
theorem dX8_tryRing_125 : decode cX8_tryRing 125 = .ok (.iload_n 3, 1) := by decide +kernel
theorem dX8_tryRing_126 : decode cX8_tryRing 126 = .ok (.iaload, 1) := by decide +kernel
theorem dX8_tryRing_127 : decode cX8_tryRing 127 = .ok (.iastore, 1) := by decide +kernel
theorem dX8_tryRing_128 : decode cX8_tryRing 128 = .ok (.iinc 3 1, 3) := by decide +kernel
theorem dX8_tryRing_131 : decode cX8_tryRing 131 = .ok (.goto (-32), 3) := by decide +kernel
theorem dX8_tryRing_134 : decode cX8_tryRing 134 = .ok (.return_, 1) := by decide +kernel
def L_Search_tryRing_99   : Nat → Int32 → CS → Option (Int32 × CS)
  | 0, _, _ => none
  | n + 1, x3, σ => if (σ.1 49) ≤ x3 then some (0, σ) else if 6 ≤ x3 then some (0, σ) else gix x3 6 (gix x3 6 ((L_Search_tryRing_99 n) (x3 + 1) (wr σ 19 x3 (rd σ 18 x3))))
set_option maxHeartbeats 4000000 in
set_option maxRecDepth 100000 in
theorem w_Search_tryRing_99 (C : Cx g p s m args meth c A 4 cX8_tryRing yX8_tryRing.cls) (hr : meth.sig.returnType = none)  {res : Int32 × CS}    : ∀ (n : Nat) (x3 : Int32) (σ : CS) (ta : Nat → Nat), φ0 ≤ ph σ.2.2 → ph σ.2.2 ≤ BB → L_Search_tryRing_99 n x3 σ = some res → NV g p l e s m args below meth c A 4 111 4 ad Rr φ0 res ta σ [(0, .ref (ad 2)), (3, .int x3)] 99 [] := by
  intro n
  induction n with
  | zero =>
    intro x3 σ ta hφ hφ2 h
    exact absurd (show (none : Option (Int32 × CS)) = some res from h) (by intro h9; cases h9)
  | succ n ih =>
    intro x3 σ ta hφ hφ2 h
    rw [L_Search_tryRing_99] at h
    refine nw_iload_n C dX8_tryRing_99 rfl 1 rfl ?_
    refine nw_aload_n C dX8_tryRing_100 rfl 0 rfl ?_
    refine nw_get (v := .int (σ.1 49)) C in_X8 2 cl_Search rfl 4 (by decide) tw_216 rfl rfl dX8_tryRing_101 ?_
    refine nw_icmp_ge (tgt := 134) C dX8_tryRing_104 (by decide) h (fun _ h => ?_) (fun _ h => ?_)
    · exact nc_vret C hr dX8_tryRing_134 hφ hφ2 h
    · refine nw_iload_n C dX8_tryRing_107 rfl 1 rfl ?_
      refine nw_aload_n C dX8_tryRing_108 rfl 0 rfl ?_
      refine nw_get (v := .ref (ad 46)) C in_X8 2 cl_Search rfl 3 (by decide) tw_215 rfl rfl dX8_tryRing_109 ?_
      refine nw_alenI C 46 (cl_I 19 rfl) dX8_tryRing_112 ?_
      refine nw_st (st' := [.int 6, .int x3]) rfl ?_
      refine nw_icmp_ge (tgt := 134) C dX8_tryRing_113 (by decide) h (fun _ h => ?_) (fun _ h => ?_)
      · exact nc_vret C hr dX8_tryRing_134 hφ hφ2 h
      · refine nw_aload_n C dX8_tryRing_116 rfl 0 rfl ?_
        refine nw_get (v := .ref (ad 46)) C in_X8 2 cl_Search rfl 3 (by decide) tw_215 rfl rfl dX8_tryRing_117 ?_
        refine nw_iload_n C dX8_tryRing_120 rfl 1 rfl ?_
        refine nw_aload_n C dX8_tryRing_121 rfl 0 rfl ?_
        refine nw_get (v := .ref (ad 45)) C in_X8 2 cl_Search rfl 2 (by decide) tw_214 rfl rfl dX8_tryRing_122 ?_
        refine nw_iload_n C dX8_tryRing_125 rfl 1 rfl ?_
        refine nw_iald C 45 (cl_I 18 rfl) dX8_tryRing_126 h (fun h => ?_)
        refine nw_iast C 46 (cl_I 19 rfl) dX8_tryRing_127 h (cs_I 19 rfl) (fun h => ?_)
        refine nw_iinc (lv' := [(3, .int (x3 + 1)), (0, .ref (ad 2))]) C (x3 + 1) dX8_tryRing_128 1 rfl rfl (by decide) rfl ?_
        refine nw_goto (tgt := 99) C dX8_tryRing_131 (by decide) ?_
        exact nw_lv (lv' := [(0, .ref (ad 2)), (3, .int (x3 + 1))]) [1, 0] rfl (ih (x3 + 1) _ _ hφ hφ2 h)
def B_Search_tryRing_92   (x2 : Int32) (σ : CS) : Option (Int32 × CS) := L_Search_tryRing_99 FU 0 (sF σ 50 x2)
set_option maxHeartbeats 4000000 in
set_option maxRecDepth 100000 in
theorem w_Search_tryRing_92 (C : Cx g p s m args meth c A 4 cX8_tryRing yX8_tryRing.cls) (hr : meth.sig.returnType = none)  {res : Int32 × CS}   (x2 : Int32)  (σ : CS) (ta : Nat → Nat) (hφ : φ0 ≤ ph σ.2.2) (hφ2 : ph σ.2.2 ≤ BB) (h : B_Search_tryRing_92 x2 σ = some res) : NV g p l e s m args below meth c A 4 111 4 ad Rr φ0 res ta σ [(0, .ref (ad 2)), (2, .int x2)] 92 [] := by
  unfold B_Search_tryRing_92 at h
  refine nw_aload_n C dX8_tryRing_92 rfl 0 rfl ?_
  refine nw_iload_n C dX8_tryRing_93 rfl 1 rfl ?_
  refine nw_put (ty := .int) C in_X8 2 cl_Search rfl 5 (by decide) tyX8 tyX8_ok nmX8 tw_217 rfl rfl (by decide +kernel) rfl rfl (Nat.le_of_ble_eq_true rfl) dX8_tryRing_94 cs_Search_shortest ?_
  refine nw_iconst (v := 0) C dX8_tryRing_97 (by decide) ?_
  refine nw_istore_n (lv' := [(3, .int 0), (0, .ref (ad 2)), (2, .int x2)]) C dX8_tryRing_98 rfl (by decide) rfl ?_
  exact nw_lv (lv' := [(0, .ref (ad 2)), (3, .int 0)]) [1, 0] rfl (w_Search_tryRing_99 C hr FU 0 _ _ hφ hφ2 h)
def f_Search_tryRing (p0 : Int32) (σ : CS) : Option (Int32 × CS) := if (σ.1 49) < 3 then some (0, σ) else if 6 < (σ.1 49) then some (0, σ) else bnd (f_Ground_closes 18 (σ.1 49) σ) (fun r32 σ32 => if r32 = 0 then some (0, σ32) else gix ((σ32.1 49) - 1) 6 (gix 0 6 (bnd (f_Ground_wayOf (rd σ32 18 ((σ32.1 49) - 1)) (rd σ32 18 0) σ32) (fun r61 σ61 => if ((σ61.1 51) + 1) = 1 then B_Search_tryRing_92 (p0 + r61) (sF σ61 51 ((σ61.1 51) + 1)) else if (σ61.1 50) ≤ (p0 + r61) then some (0, (sF σ61 51 ((σ61.1 51) + 1))) else B_Search_tryRing_92 (p0 + r61) (sF σ61 51 ((σ61.1 51) + 1))))))
set_option maxHeartbeats 4000000 in
set_option maxRecDepth 100000 in
theorem c_Search_tryRing {l : Launch} {g : EG} {ad ta : Nat → Nat} {Rr : va_W} {σ σ' : CS} {r : Int32} {p0 : Int32}  (h : f_Search_tryRing p0 σ = some (r, σ')) (hφ2 : ph σ.2.2 ≤ BB) : CtV l g yX8_tryRing (.code yX8_tryRing cX8_tryRing 4 none) 4 111 ad ta Rr σ [.ref (ad 2), .int p0] r σ' := by
  refine Ct.of rfl (by decide) (Nat.le_of_ble_eq_true rfl) ?_
  intro p e s m args below meth c A C hr
  have hφ : ph σ.2.2 ≤ ph σ.2.2 := Nat.le_refl _
  refine nw_zero (ph σ.2.2) ?_
  show NV g p l e s m args below meth c A 4 111 4 ad Rr (ph σ.2.2) (r, σ') ta σ [(0, .ref (ad 2)), (1, .int p0)] 0 []
  unfold f_Search_tryRing at h
  refine nw_aload_n C dX8_tryRing_0 rfl 0 rfl ?_
  refine nw_get (v := .int (σ.1 49)) C in_X8 2 cl_Search rfl 4 (by decide) tw_216 rfl rfl dX8_tryRing_1 ?_
  refine nw_iconst (v := 3) C dX8_tryRing_4 (by decide) ?_
  refine nw_icmp_lt (tgt := 38) C dX8_tryRing_5 (by decide) h (fun _ h => ?_) (fun _ h => ?_)
  · exact nc_vret C hr dX8_tryRing_38 hφ hφ2 h
  · refine nw_aload_n C dX8_tryRing_8 rfl 0 rfl ?_
    refine nw_get (v := .int (σ.1 49)) C in_X8 2 cl_Search rfl 4 (by decide) tw_216 rfl rfl dX8_tryRing_9 ?_
    refine nw_aload_n C dX8_tryRing_12 rfl 0 rfl ?_
    refine nw_get (v := .ref (ad 45)) C in_X8 2 cl_Search rfl 2 (by decide) tw_214 rfl rfl dX8_tryRing_13 ?_
    refine nw_alenI C 45 (cl_I 18 rfl) dX8_tryRing_16 ?_
    refine nw_st (st' := [.int 6, .int (σ.1 49)]) rfl ?_
    refine nw_icmp_gt (tgt := 38) C dX8_tryRing_17 (by decide) h (fun _ h => ?_) (fun _ h => ?_)
    · exact nc_vret C hr dX8_tryRing_38 hφ hφ2 h
    · refine nw_aload_n C dX8_tryRing_20 rfl 0 rfl ?_
      refine nw_get (v := .ref (ad 1)) C in_X8 2 cl_Search rfl 0 (by decide) tw_212 rfl rfl dX8_tryRing_21 ?_
      refine nw_aload_n C dX8_tryRing_24 rfl 0 rfl ?_
      refine nw_get (v := .ref (ad 45)) C in_X8 2 cl_Search rfl 2 (by decide) tw_214 rfl rfl dX8_tryRing_25 ?_
      refine nw_aload_n C dX8_tryRing_28 rfl 0 rfl ?_
      refine nw_get (v := .int (σ.1 49)) C in_X8 2 cl_Search rfl 4 (by decide) tw_216 rfl rfl dX8_tryRing_29 ?_
      refine nc_callVI (q0 := 1) (As := [.ref (ad 45), .int (σ.1 49)]) (rest := []) C h (fun _ _ e => c_Ground_closes 18 rfl e hφ2) tw_1058 kv_X2_closes cl_Ground rfl ⟨Nat.le_of_ble_eq_true rfl, Nat.le_of_ble_eq_true rfl⟩ rfl dX8_tryRing_32 rfl (Nat.le_of_ble_eq_true rfl) hφ hφ2 (fun r32 σ32 ta h hφ hφ2 => ?_)
      refine nw_if_ne (tgt := 39) C dX8_tryRing_35 (by decide) h (fun _ h => ?_) (fun _ h => ?_)
      · exact nc_vret C hr dX8_tryRing_38 hφ hφ2 h
      · refine nw_iload_n C dX8_tryRing_39 rfl 1 rfl ?_
        refine nw_aload_n C dX8_tryRing_40 rfl 0 rfl ?_
        refine nw_get (v := .ref (ad 1)) C in_X8 2 cl_Search rfl 0 (by decide) tw_212 rfl rfl dX8_tryRing_41 ?_
        refine nw_aload_n C dX8_tryRing_44 rfl 0 rfl ?_
        refine nw_get (v := .ref (ad 45)) C in_X8 2 cl_Search rfl 2 (by decide) tw_214 rfl rfl dX8_tryRing_45 ?_
        refine nw_aload_n C dX8_tryRing_48 rfl 0 rfl ?_
        refine nw_get (v := .int (σ32.1 49)) C in_X8 2 cl_Search rfl 4 (by decide) tw_216 rfl rfl dX8_tryRing_49 ?_
        refine nw_iconst (v := 1) C dX8_tryRing_52 (by decide) ?_
        refine nw_isub C dX8_tryRing_53 ?_
        refine nw_iald C 45 (cl_I 18 rfl) dX8_tryRing_54 h (fun h => ?_)
        refine nw_aload_n C dX8_tryRing_55 rfl 0 rfl ?_
        refine nw_get (v := .ref (ad 45)) C in_X8 2 cl_Search rfl 2 (by decide) tw_214 rfl rfl dX8_tryRing_56 ?_
        refine nw_iconst (v := 0) C dX8_tryRing_59 (by decide) ?_
        refine nw_iald C 45 (cl_I 18 rfl) dX8_tryRing_60 h (fun h => ?_)
        refine nc_callVI (q0 := 1) (As := [.int (rd σ32 18 ((σ32.1 49) - 1)), .int (rd σ32 18 0)]) (rest := [.int p0]) C h (fun _ _ e => c_Ground_wayOf e hφ2) tw_1059 kv_X2_wayOf cl_Ground rfl ⟨Nat.le_of_ble_eq_true rfl, Nat.le_of_ble_eq_true rfl⟩ rfl dX8_tryRing_61 rfl (Nat.le_of_ble_eq_true rfl) hφ hφ2 (fun r61 σ61 ta h hφ hφ2 => ?_)
        refine nw_iadd C dX8_tryRing_64 ?_
        refine nw_istore_n (lv' := [(2, .int (p0 + r61)), (0, .ref (ad 2)), (1, .int p0)]) C dX8_tryRing_65 rfl (by decide) rfl ?_
        refine nw_aload_n C dX8_tryRing_66 rfl 1 rfl ?_
        refine nw_dup C dX8_tryRing_67 rfl ?_
        refine nw_get (v := .int (σ61.1 51)) C in_X8 2 cl_Search rfl 6 (by decide) tw_218 rfl rfl dX8_tryRing_68 ?_
        refine nw_iconst (v := 1) C dX8_tryRing_71 (by decide) ?_
        refine nw_iadd C dX8_tryRing_72 ?_
        refine nw_put (ty := .int) C in_X8 2 cl_Search rfl 6 (by decide) tyX8 tyX8_ok nmX8 tw_218 rfl rfl (by decide +kernel) rfl rfl (Nat.le_of_ble_eq_true rfl) dX8_tryRing_73 cs_Search_found ?_
        refine nw_aload_n C dX8_tryRing_76 rfl 1 rfl ?_
        refine nw_get (v := .int ((σ61.1 51) + 1)) C in_X8 2 cl_Search rfl 6 (by decide) tw_218 rfl rfl dX8_tryRing_77 ?_
        refine nw_iconst (v := 1) C dX8_tryRing_80 (by decide) ?_
        refine nw_icmp_eq (tgt := 92) C dX8_tryRing_81 (by decide) h (fun _ h => ?_) (fun _ h => ?_)
        · exact nw_lv (lv' := [(0, .ref (ad 2)), (2, .int (p0 + r61))]) [1, 0] rfl (w_Search_tryRing_92 C hr (p0 + r61) _ _ hφ hφ2 h)
        · refine nw_iload_n C dX8_tryRing_84 rfl 0 rfl ?_
          refine nw_aload_n C dX8_tryRing_85 rfl 1 rfl ?_
          refine nw_get (v := .int (σ61.1 50)) C in_X8 2 cl_Search rfl 5 (by decide) tw_217 rfl rfl dX8_tryRing_86 ?_
          refine nw_icmp_ge (tgt := 134) C dX8_tryRing_89 (by decide) h (fun _ h => ?_) (fun _ h => ?_)
          · exact nc_vret C hr dX8_tryRing_134 hφ hφ2 h
          · exact nw_lv (lv' := [(0, .ref (ad 2)), (2, .int (p0 + r61))]) [1, 0] rfl (w_Search_tryRing_92 C hr (p0 + r61) _ _ hφ hφ2 h)
theorem dX8_tryMarks_0 : decode cX8_tryMarks 0 = .ok (.iload_n 1, 1) := by decide +kernel
theorem dX8_tryMarks_1 : decode cX8_tryMarks 1 = .ok (.aload_n 0, 1) := by decide +kernel
theorem dX8_tryMarks_2 : decode cX8_tryMarks 2 = .ok (.getfield 35, 3) := by decide +kernel
theorem dX8_tryMarks_5 : decode cX8_tryMarks 5 = .ok (.if_icmp .ge 21, 3) := by decide +kernel
theorem dX8_tryMarks_8 : decode cX8_tryMarks 8 = .ok (.iload_n 1, 1) := by decide +kernel
theorem dX8_tryMarks_9 : decode cX8_tryMarks 9 = .ok (.aload_n 0, 1) := by decide +kernel
theorem dX8_tryMarks_10 : decode cX8_tryMarks 10 = .ok (.getfield 19, 3) := by decide +kernel
theorem dX8_tryMarks_13 : decode cX8_tryMarks 13 = .ok (.arraylength, 1) := by decide +kernel
theorem dX8_tryMarks_14 : decode cX8_tryMarks 14 = .ok (.if_icmp .ge 12, 3) := by decide +kernel
theorem dX8_tryMarks_17 : decode cX8_tryMarks 17 = .ok (.iload_n 1, 1) := by decide +kernel
theorem dX8_tryMarks_18 : decode cX8_tryMarks 18 = .ok (.aload_n 0, 1) := by decide +kernel
theorem dX8_tryMarks_19 : decode cX8_tryMarks 19 = .ok (.getfield 15, 3) := by decide +kernel
theorem dX8_tryMarks_22 : decode cX8_tryMarks 22 = .ok (.arraylength, 1) := by decide +kernel
theorem dX8_tryMarks_23 : decode cX8_tryMarks 23 = .ok (.if_icmp .lt 9, 3) := by decide +kernel
theorem dX8_tryMarks_26 : decode cX8_tryMarks 26 = .ok (.aload_n 0, 1) := by decide +kernel
theorem dX8_tryMarks_27 : decode cX8_tryMarks 27 = .ok (.iload_n 2, 1) := by decide +kernel
theorem dX8_tryMarks_28 : decode cX8_tryMarks 28 = .ok (.invokevirtual 48, 3) := by decide +kernel
theorem dX8_tryMarks_31 : decode cX8_tryMarks 31 = .ok (.return_, 1) := by decide +kernel
theorem dX8_tryMarks_32 : decode cX8_tryMarks 32 = .ok (.iconst 0, 1) := by decide +kernel
theorem dX8_tryMarks_33 : decode cX8_tryMarks 33 = .ok (.istore_n 3, 1) := by decide +kernel
theorem dX8_tryMarks_34 : decode cX8_tryMarks 34 = .ok (.iload_n 3, 1) := by decide +kernel
theorem dX8_tryMarks_35 : decode cX8_tryMarks 35 = .ok (.aload_n 0, 1) := by decide +kernel
theorem dX8_tryMarks_36 : decode cX8_tryMarks 36 = .ok (.getfield 9, 3) := by decide +kernel
theorem dX8_tryMarks_39 : decode cX8_tryMarks 39 = .ok (.getfield 52, 3) := by decide +kernel
theorem dX8_tryMarks_42 : decode cX8_tryMarks 42 = .ok (.invokevirtual 25, 3) := by decide +kernel
theorem dX8_tryMarks_45 : decode cX8_tryMarks 45 = .ok (.if_icmp .ge 88, 3) := by decide +kernel
theorem dX8_tryMarks_48 : decode cX8_tryMarks 48 = .ok (.aload_n 0, 1) := by decide +kernel
theorem dX8_tryMarks_49 : decode cX8_tryMarks 49 = .ok (.getfield 9, 3) := by decide +kernel
theorem dX8_tryMarks_52 : decode cX8_tryMarks 52 = .ok (.getfield 52, 3) := by decide +kernel
theorem dX8_tryMarks_55 : decode cX8_tryMarks 55 = .ok (.iload_n 3, 1) := by decide +kernel
theorem dX8_tryMarks_56 : decode cX8_tryMarks 56 = .ok (.iconst 0, 1) := by decide +kernel
theorem dX8_tryMarks_57 : decode cX8_tryMarks 57 = .ok (.invokevirtual 37, 3) := by decide +kernel
theorem dX8_tryMarks_60 : decode cX8_tryMarks 60 = .ok (.aload_n 0, 1) := by decide +kernel
theorem dX8_tryMarks_61 : decode cX8_tryMarks 61 = .ok (.getfield 15, 3) := by decide +kernel
theorem dX8_tryMarks_64 : decode cX8_tryMarks 64 = .ok (.iload_n 1, 1) := by decide +kernel
theorem dX8_tryMarks_65 : decode cX8_tryMarks 65 = .ok (.iaload, 1) := by decide +kernel
theorem dX8_tryMarks_66 : decode cX8_tryMarks 66 = .ok (.if_icmp .eq 6, 3) := by decide +kernel
theorem dX8_tryMarks_69 : decode cX8_tryMarks 69 = .ok (.goto 58, 3) := by decide +kernel
theorem dX8_tryMarks_72 : decode cX8_tryMarks 72 = .ok (.aload_n 0, 1) := by decide +kernel
theorem dX8_tryMarks_73 : decode cX8_tryMarks 73 = .ok (.getfield 19, 3) := by decide +kernel
theorem dX8_tryMarks_76 : decode cX8_tryMarks 76 = .ok (.iload_n 1, 1) := by decide +kernel
theorem dX8_tryMarks_77 : decode cX8_tryMarks 77 = .ok (.iload_n 3, 1) := by decide +kernel
theorem dX8_tryMarks_78 : decode cX8_tryMarks 78 = .ok (.iastore, 1) := by decide +kernel
theorem dX8_tryMarks_79 : decode cX8_tryMarks 79 = .ok (.aload_n 0, 1) := by decide +kernel
theorem dX8_tryMarks_80 : decode cX8_tryMarks 80 = .ok (.getfield 9, 3) := by decide +kernel
theorem dX8_tryMarks_83 : decode cX8_tryMarks 83 = .ok (.aload_n 0, 1) := by decide +kernel
theorem dX8_tryMarks_84 : decode cX8_tryMarks 84 = .ok (.getfield 19, 3) := by decide +kernel
theorem dX8_tryMarks_87 : decode cX8_tryMarks 87 = .ok (.iload_n 1, 1) := by decide +kernel
theorem dX8_tryMarks_88 : decode cX8_tryMarks 88 = .ok (.invokevirtual 58, 3) := by decide +kernel
theorem dX8_tryMarks_91 : decode cX8_tryMarks 91 = .ok (.ifCond .eq 36, 3) := by decide +kernel
theorem dX8_tryMarks_94 : decode cX8_tryMarks 94 = .ok (.aload_n 0, 1) := by decide +kernel
theorem dX8_tryMarks_95 : decode cX8_tryMarks 95 = .ok (.iload_n 1, 1) := by decide +kernel
theorem dX8_tryMarks_96 : decode cX8_tryMarks 96 = .ok (.iconst 1, 1) := by decide +kernel
theorem dX8_tryMarks_97 : decode cX8_tryMarks 97 = .ok (.iadd, 1) := by decide +kernel
theorem dX8_tryMarks_98 : decode cX8_tryMarks 98 = .ok (.iload_n 1, 1) := by decide +kernel
theorem dX8_tryMarks_99 : decode cX8_tryMarks 99 = .ok (.ifCond .ne 7, 3) := by decide +kernel
theorem dX8_tryMarks_102 : decode cX8_tryMarks 102 = .ok (.iconst 0, 1) := by decide +kernel
theorem dX8_tryMarks_103 : decode cX8_tryMarks 103 = .ok (.goto 21, 3) := by decide +kernel
theorem dX8_tryMarks_106 : decode cX8_tryMarks 106 = .ok (.iload_n 2, 1) := by decide +kernel
theorem dX8_tryMarks_107 : decode cX8_tryMarks 107 = .ok (.aload_n 0, 1) := by decide +kernel
theorem dX8_tryMarks_108 : decode cX8_tryMarks 108 = .ok (.getfield 9, 3) := by decide +kernel
theorem dX8_tryMarks_111 : decode cX8_tryMarks 111 = .ok (.aload_n 0, 1) := by decide +kernel
theorem dX8_tryMarks_112 : decode cX8_tryMarks 112 = .ok (.getfield 19, 3) := by decide +kernel
theorem dX8_tryMarks_115 : decode cX8_tryMarks 115 = .ok (.iload_n 1, 1) := by decide +kernel
theorem dX8_tryMarks_116 : decode cX8_tryMarks 116 = .ok (.iconst 1, 1) := by decide +kernel
theorem dX8_tryMarks_117 : decode cX8_tryMarks 117 = .ok (.isub, 1) := by decide +kernel
theorem dX8_tryMarks_118 : decode cX8_tryMarks 118 = .ok (.iaload, 1) := by decide +kernel
theorem dX8_tryMarks_119 : decode cX8_tryMarks 119 = .ok (.iload_n 3, 1) := by decide +kernel
theorem dX8_tryMarks_120 : decode cX8_tryMarks 120 = .ok (.invokevirtual 62, 3) := by decide +kernel
theorem dX8_tryMarks_123 : decode cX8_tryMarks 123 = .ok (.iadd, 1) := by decide +kernel
theorem dX8_tryMarks_124 : decode cX8_tryMarks 124 = .ok (.invokevirtual 41, 3) := by decide +kernel
theorem dX8_tryMarks_127 : decode cX8_tryMarks 127 = .ok (.iinc 3 1, 3) := by decide +kernel
theorem dX8_tryMarks_130 : decode cX8_tryMarks 130 = .ok (.goto (-96), 3) := by decide +kernel
theorem dX8_tryMarks_133 : decode cX8_tryMarks 133 = .ok (.return_, 1) := by decide +kernel
def B_Search_tryMarks_26 (rc : Nat → Int32 → Int32 → CS → Option (Int32 × CS))   (x2 : Int32) (σ : CS) : Option (Int32 × CS) := bnd (f_Search_tryRing x2 σ) (fun _ σ28 => some (0, σ28))
set_option maxHeartbeats 4000000 in
set_option maxRecDepth 100000 in
theorem w_Search_tryMarks_26 (C : Cx g p s m args meth c A 4 cX8_tryMarks yX8_tryMarks.cls) (hr : meth.sig.returnType = none) {d : Nat} {rc : Nat → Int32 → Int32 → CS → Option (Int32 × CS)} (hrc0 : ∀ {l : Launch} {g : EG} {ad ta : Nat → Nat} {Rr : va_W} {σ σ' : CS} {r : Int32} {a0 a1 : Int32}, rc 0 a0 a1 σ = some (r, σ') → ph σ.2.2 ≤ BB → CtV l g yX8_tryMarks (.code yX8_tryMarks cX8_tryMarks 4 none) (10 * d) (400 * d) ad ta Rr σ [.ref (ad 2), .int a0, .int a1] r σ')  {res : Int32 × CS}   (x2 : Int32)  (σ : CS) (ta : Nat → Nat) (hφ : φ0 ≤ ph σ.2.2) (hφ2 : ph σ.2.2 ≤ BB) (h : B_Search_tryMarks_26 rc x2 σ = some res) : NV g p l e s m args below meth c A (10 * d + 10) (400 * d + 400) 4 ad Rr φ0 res ta σ [(0, .ref (ad 2)), (2, .int x2)] 26 [] := by
  unfold B_Search_tryMarks_26 at h
  refine nw_aload_n C dX8_tryMarks_26 rfl 0 rfl ?_
  refine nw_iload_n C dX8_tryMarks_27 rfl 1 rfl ?_
  refine nc_callVV (q0 := 2) (As := [.int x2]) (rest := []) C h (fun _ _ e => c_Search_tryRing e hφ2) tw_1054 kv_X8_tryRing cl_Search rfl ⟨by omega, by omega⟩ rfl dX8_tryMarks_28 rfl (Nat.le_of_ble_eq_true rfl) hφ hφ2 (fun r28 σ28 ta h hφ hφ2 => ?_)
  exact nc_vret C hr dX8_tryMarks_31 hφ hφ2 h
def B_Search_tryMarks_124 (rc : Nat → Int32 → Int32 → CS → Option (Int32 × CS)) (k34 : Int32 → CS → Option (Int32 × CS)) (x1 : Int32) (x2 : Int32) (x3 : Int32) (z1 : Int32) (z2 : Int32) (σ : CS) : Option (Int32 × CS) := bnd (rc 0 z1 z2 σ) (fun _ σ124 => k34 (x3 + 1) σ124)
set_option maxHeartbeats 4000000 in
set_option maxRecDepth 100000 in
theorem w_Search_tryMarks_124 (C : Cx g p s m args meth c A 4 cX8_tryMarks yX8_tryMarks.cls) (hr : meth.sig.returnType = none) {d : Nat} {rc : Nat → Int32 → Int32 → CS → Option (Int32 × CS)} (hrc0 : ∀ {l : Launch} {g : EG} {ad ta : Nat → Nat} {Rr : va_W} {σ σ' : CS} {r : Int32} {a0 a1 : Int32}, rc 0 a0 a1 σ = some (r, σ') → ph σ.2.2 ≤ BB → CtV l g yX8_tryMarks (.code yX8_tryMarks cX8_tryMarks 4 none) (10 * d) (400 * d) ad ta Rr σ [.ref (ad 2), .int a0, .int a1] r σ')  {res : Int32 × CS}  (x1 : Int32) (x2 : Int32) (x3 : Int32) (z1 : Int32) (z2 : Int32) {k34 : Int32 → CS → Option (Int32 × CS)} (hk34 : ∀ (x3 : Int32) (σ : CS) (ta : Nat → Nat), φ0 ≤ ph σ.2.2 → ph σ.2.2 ≤ BB → k34 x3 σ = some res → NV g p l e s m args below meth c A (10 * d + 10) (400 * d + 400) 4 ad Rr φ0 res ta σ [(0, .ref (ad 2)), (1, .int x1), (2, .int x2), (3, .int x3)] 34 []) (σ : CS) (ta : Nat → Nat) (hφ : φ0 ≤ ph σ.2.2) (hφ2 : ph σ.2.2 ≤ BB) (h : B_Search_tryMarks_124 rc k34 x1 x2 x3 z1 z2 σ = some res) : NV g p l e s m args below meth c A (10 * d + 10) (400 * d + 400) 4 ad Rr φ0 res ta σ [(0, .ref (ad 2)), (1, .int x1), (2, .int x2), (3, .int x3)] 124 [.int z2, .int z1, .ref (ad 2)] := by
  unfold B_Search_tryMarks_124 at h
  refine nc_callVV (q0 := 2) (As := [.int z1, .int z2]) (rest := []) C h (fun _ _ e => hrc0 e hφ2) tw_1050 kv_X8_tryMarks cl_Search rfl ⟨by omega, by omega⟩ rfl dX8_tryMarks_124 rfl (Nat.le_of_ble_eq_true rfl) hφ hφ2 (fun r124 σ124 ta h hφ hφ2 => ?_)
  refine nw_iinc (lv' := [(3, .int (x3 + 1)), (0, .ref (ad 2)), (1, .int x1), (2, .int x2)]) C (x3 + 1) dX8_tryMarks_127 3 rfl rfl (by decide) rfl ?_
  refine nw_goto (tgt := 34) C dX8_tryMarks_130 (by decide) ?_
  exact nw_lv (lv' := [(0, .ref (ad 2)), (1, .int x1), (2, .int x2), (3, .int (x3 + 1))]) [1, 2, 3, 0] rfl (hk34 (x3 + 1) _ _ hφ hφ2 h)
def L_Search_tryMarks_34 (rc : Nat → Int32 → Int32 → CS → Option (Int32 × CS))  (x1 : Int32) (x2 : Int32) : Nat → Int32 → CS → Option (Int32 × CS)
  | 0, _, _ => none
  | n + 1, x3, σ => bnd (f_Table_size 1 σ) (fun r42 σ42 => if r42 ≤ x3 then some (0, σ42) else bnd (f_Table_get 1 x3 0 σ42) (fun r57 σ57 => gix x1 6 (if r57 = (rd σ57 17 x1) then gix x1 6 (bnd (f_Ground_follows 18 x1 (wr σ57 18 x1 x3)) (fun r88 σ88 => if r88 = 0 then (L_Search_tryMarks_34 rc x1 x2 n) (x3 + 1) σ88 else if x1 = 0 then B_Search_tryMarks_124 rc (L_Search_tryMarks_34 rc x1 x2 n) x1 x2 x3 (x1 + 1) 0 σ88 else gix (x1 - 1) 6 (bnd (f_Ground_wayOf (rd σ88 18 (x1 - 1)) x3 σ88) (fun r120 σ120 => B_Search_tryMarks_124 rc (L_Search_tryMarks_34 rc x1 x2 n) x1 x2 x3 (x1 + 1) (x2 + r120) σ120)))) else (L_Search_tryMarks_34 rc x1 x2 n) (x3 + 1) σ57)))
set_option maxHeartbeats 4000000 in
set_option maxRecDepth 100000 in
theorem w_Search_tryMarks_34 (C : Cx g p s m args meth c A 4 cX8_tryMarks yX8_tryMarks.cls) (hr : meth.sig.returnType = none) {d : Nat} {rc : Nat → Int32 → Int32 → CS → Option (Int32 × CS)} (hrc0 : ∀ {l : Launch} {g : EG} {ad ta : Nat → Nat} {Rr : va_W} {σ σ' : CS} {r : Int32} {a0 a1 : Int32}, rc 0 a0 a1 σ = some (r, σ') → ph σ.2.2 ≤ BB → CtV l g yX8_tryMarks (.code yX8_tryMarks cX8_tryMarks 4 none) (10 * d) (400 * d) ad ta Rr σ [.ref (ad 2), .int a0, .int a1] r σ')  {res : Int32 × CS}  (x1 : Int32) (x2 : Int32)  : ∀ (n : Nat) (x3 : Int32) (σ : CS) (ta : Nat → Nat), φ0 ≤ ph σ.2.2 → ph σ.2.2 ≤ BB → L_Search_tryMarks_34 rc x1 x2 n x3 σ = some res → NV g p l e s m args below meth c A (10 * d + 10) (400 * d + 400) 4 ad Rr φ0 res ta σ [(0, .ref (ad 2)), (1, .int x1), (2, .int x2), (3, .int x3)] 34 [] := by
  intro n
  induction n with
  | zero =>
    intro x3 σ ta hφ hφ2 h
    exact absurd (show (none : Option (Int32 × CS)) = some res from h) (by intro h9; cases h9)
  | succ n ih =>
    intro x3 σ ta hφ hφ2 h
    rw [L_Search_tryMarks_34] at h
    refine nw_iload_n C dX8_tryMarks_34 rfl 3 rfl ?_
    refine nw_aload_n C dX8_tryMarks_35 rfl 0 rfl ?_
    refine nw_get (v := .ref (ad 1)) C in_X8 2 cl_Search rfl 0 (by decide) tw_212 rfl rfl dX8_tryMarks_36 ?_
    refine nw_get (v := .ref (ad 12)) C in_X2 1 cl_Ground rfl 0 (by decide) tw_191 rfl rfl dX8_tryMarks_39 ?_
    refine nc_callVI (q0 := 12) (As := []) (rest := [.int x3]) C h (fun _ _ e => c_Table_size 1 (by decide) e hφ2) tw_1048 kv_X9_size (cl_T 1 (by decide)) rfl ⟨by omega, by omega⟩ rfl dX8_tryMarks_42 rfl (Nat.le_of_ble_eq_true rfl) hφ hφ2 (fun r42 σ42 ta h hφ hφ2 => ?_)
    refine nw_icmp_ge (tgt := 133) C dX8_tryMarks_45 (by decide) h (fun _ h => ?_) (fun _ h => ?_)
    · exact nc_vret C hr dX8_tryMarks_133 hφ hφ2 h
    · refine nw_aload_n C dX8_tryMarks_48 rfl 0 rfl ?_
      refine nw_get (v := .ref (ad 1)) C in_X8 2 cl_Search rfl 0 (by decide) tw_212 rfl rfl dX8_tryMarks_49 ?_
      refine nw_get (v := .ref (ad 12)) C in_X2 1 cl_Ground rfl 0 (by decide) tw_191 rfl rfl dX8_tryMarks_52 ?_
      refine nw_iload_n C dX8_tryMarks_55 rfl 3 rfl ?_
      refine nw_iconst (v := 0) C dX8_tryMarks_56 (by decide) ?_
      refine nc_callVI (q0 := 12) (As := [.int x3, .int 0]) (rest := []) C h (fun _ _ e => c_Table_get 1 (by decide) e hφ2) tw_1049 kv_X9_get (cl_T 1 (by decide)) rfl ⟨by omega, by omega⟩ rfl dX8_tryMarks_57 rfl (Nat.le_of_ble_eq_true rfl) hφ hφ2 (fun r57 σ57 ta h hφ hφ2 => ?_)
      refine nw_aload_n C dX8_tryMarks_60 rfl 0 rfl ?_
      refine nw_get (v := .ref (ad 44)) C in_X8 2 cl_Search rfl 1 (by decide) tw_213 rfl rfl dX8_tryMarks_61 ?_
      refine nw_iload_n C dX8_tryMarks_64 rfl 1 rfl ?_
      refine nw_iald C 44 (cl_I 17 rfl) dX8_tryMarks_65 h (fun h => ?_)
      refine nw_icmp_eq (tgt := 72) C dX8_tryMarks_66 (by decide) h (fun _ h => ?_) (fun _ h => ?_)
      · refine nw_aload_n C dX8_tryMarks_72 rfl 0 rfl ?_
        refine nw_get (v := .ref (ad 45)) C in_X8 2 cl_Search rfl 2 (by decide) tw_214 rfl rfl dX8_tryMarks_73 ?_
        refine nw_iload_n C dX8_tryMarks_76 rfl 1 rfl ?_
        refine nw_iload_n C dX8_tryMarks_77 rfl 3 rfl ?_
        refine nw_iast C 45 (cl_I 18 rfl) dX8_tryMarks_78 h (cs_I 18 rfl) (fun h => ?_)
        refine nw_aload_n C dX8_tryMarks_79 rfl 0 rfl ?_
        refine nw_get (v := .ref (ad 1)) C in_X8 2 cl_Search rfl 0 (by decide) tw_212 rfl rfl dX8_tryMarks_80 ?_
        refine nw_aload_n C dX8_tryMarks_83 rfl 0 rfl ?_
        refine nw_get (v := .ref (ad 45)) C in_X8 2 cl_Search rfl 2 (by decide) tw_214 rfl rfl dX8_tryMarks_84 ?_
        refine nw_iload_n C dX8_tryMarks_87 rfl 1 rfl ?_
        refine nc_callVI (q0 := 1) (As := [.ref (ad 45), .int x1]) (rest := []) C h (fun _ _ e => c_Ground_follows 18 rfl e hφ2) tw_1064 kv_X2_follows cl_Ground rfl ⟨by omega, by omega⟩ rfl dX8_tryMarks_88 rfl (Nat.le_of_ble_eq_true rfl) hφ hφ2 (fun r88 σ88 ta h hφ hφ2 => ?_)
        refine nw_if_eq (tgt := 127) C dX8_tryMarks_91 (by decide) h (fun _ h => ?_) (fun _ h => ?_)
        · refine nw_iinc (lv' := [(3, .int (x3 + 1)), (0, .ref (ad 2)), (1, .int x1), (2, .int x2)]) C (x3 + 1) dX8_tryMarks_127 3 rfl rfl (by decide) rfl ?_
          refine nw_goto (tgt := 34) C dX8_tryMarks_130 (by decide) ?_
          exact nw_lv (lv' := [(0, .ref (ad 2)), (1, .int x1), (2, .int x2), (3, .int (x3 + 1))]) [1, 2, 3, 0] rfl (ih (x3 + 1) _ _ hφ hφ2 h)
        · refine nw_aload_n C dX8_tryMarks_94 rfl 0 rfl ?_
          refine nw_iload_n C dX8_tryMarks_95 rfl 1 rfl ?_
          refine nw_iconst (v := 1) C dX8_tryMarks_96 (by decide) ?_
          refine nw_iadd C dX8_tryMarks_97 ?_
          refine nw_iload_n C dX8_tryMarks_98 rfl 1 rfl ?_
          refine nw_if_ne (tgt := 106) C dX8_tryMarks_99 (by decide) h (fun _ h => ?_) (fun _ h => ?_)
          · refine nw_iconst (v := 0) C dX8_tryMarks_102 (by decide) ?_
            refine nw_goto (tgt := 124) C dX8_tryMarks_103 (by decide) ?_
            exact nw_lv (lv' := [(0, .ref (ad 2)), (1, .int x1), (2, .int x2), (3, .int x3)]) [0, 1, 2, 3] rfl (w_Search_tryMarks_124 C hr hrc0 x1 x2 x3 (x1 + 1) 0 ih _ _ hφ hφ2 h)
          · refine nw_iload_n C dX8_tryMarks_106 rfl 2 rfl ?_
            refine nw_aload_n C dX8_tryMarks_107 rfl 0 rfl ?_
            refine nw_get (v := .ref (ad 1)) C in_X8 2 cl_Search rfl 0 (by decide) tw_212 rfl rfl dX8_tryMarks_108 ?_
            refine nw_aload_n C dX8_tryMarks_111 rfl 0 rfl ?_
            refine nw_get (v := .ref (ad 45)) C in_X8 2 cl_Search rfl 2 (by decide) tw_214 rfl rfl dX8_tryMarks_112 ?_
            refine nw_iload_n C dX8_tryMarks_115 rfl 1 rfl ?_
            refine nw_iconst (v := 1) C dX8_tryMarks_116 (by decide) ?_
            refine nw_isub C dX8_tryMarks_117 ?_
            refine nw_iald C 45 (cl_I 18 rfl) dX8_tryMarks_118 h (fun h => ?_)
            refine nw_iload_n C dX8_tryMarks_119 rfl 3 rfl ?_
            refine nc_callVI (q0 := 1) (As := [.int (rd σ88 18 (x1 - 1)), .int x3]) (rest := [.int x2, .int (x1 + 1), .ref (ad 2)]) C h (fun _ _ e => c_Ground_wayOf e hφ2) tw_1059 kv_X2_wayOf cl_Ground rfl ⟨by omega, by omega⟩ rfl dX8_tryMarks_120 rfl (Nat.le_of_ble_eq_true rfl) hφ hφ2 (fun r120 σ120 ta h hφ hφ2 => ?_)
            refine nw_iadd C dX8_tryMarks_123 ?_
            exact nw_lv (lv' := [(0, .ref (ad 2)), (1, .int x1), (2, .int x2), (3, .int x3)]) [0, 1, 2, 3] rfl (w_Search_tryMarks_124 C hr hrc0 x1 x2 x3 (x1 + 1) (x2 + r120) ih _ _ hφ hφ2 h)
      · refine nw_goto (tgt := 127) C dX8_tryMarks_69 (by decide) ?_
        refine nw_iinc (lv' := [(3, .int (x3 + 1)), (0, .ref (ad 2)), (1, .int x1), (2, .int x2)]) C (x3 + 1) dX8_tryMarks_127 3 rfl rfl (by decide) rfl ?_
        refine nw_goto (tgt := 34) C dX8_tryMarks_130 (by decide) ?_
        exact nw_lv (lv' := [(0, .ref (ad 2)), (1, .int x1), (2, .int x2), (3, .int (x3 + 1))]) [1, 2, 3, 0] rfl (ih (x3 + 1) _ _ hφ hφ2 h)
def f_Search_tryMarks (rc : Nat → Int32 → Int32 → CS → Option (Int32 × CS)) (p0 : Int32) (p1 : Int32) (σ : CS) : Option (Int32 × CS) := if (σ.1 49) ≤ p0 then B_Search_tryMarks_26 rc p1 σ else if 6 ≤ p0 then B_Search_tryMarks_26 rc p1 σ else if p0 < 6 then L_Search_tryMarks_34 rc p0 p1 FU 0 σ else B_Search_tryMarks_26 rc p1 σ
set_option maxHeartbeats 4000000 in
set_option maxRecDepth 100000 in
theorem c_Search_tryMarks {l : Launch} {g : EG} {ad ta : Nat → Nat} {Rr : va_W} {σ σ' : CS} {r : Int32} {p0 : Int32} {p1 : Int32} {d : Nat} {rc : Nat → Int32 → Int32 → CS → Option (Int32 × CS)} (hrc0 : ∀ {l : Launch} {g : EG} {ad ta : Nat → Nat} {Rr : va_W} {σ σ' : CS} {r : Int32} {a0 a1 : Int32}, rc 0 a0 a1 σ = some (r, σ') → ph σ.2.2 ≤ BB → CtV l g yX8_tryMarks (.code yX8_tryMarks cX8_tryMarks 4 none) (10 * d) (400 * d) ad ta Rr σ [.ref (ad 2), .int a0, .int a1] r σ')  (h : f_Search_tryMarks rc p0 p1 σ = some (r, σ')) (hφ2 : ph σ.2.2 ≤ BB) : CtV l g yX8_tryMarks (.code yX8_tryMarks cX8_tryMarks 4 none) (10 * d + 10) (400 * d + 400) ad ta Rr σ [.ref (ad 2), .int p0, .int p1] r σ' := by
  refine Ct.of rfl (by decide) (Nat.le_of_ble_eq_true rfl) ?_
  intro p e s m args below meth c A C hr
  have hφ : ph σ.2.2 ≤ ph σ.2.2 := Nat.le_refl _
  refine nw_zero (ph σ.2.2) ?_
  show NV g p l e s m args below meth c A (10 * d + 10) (400 * d + 400) 4 ad Rr (ph σ.2.2) (r, σ') ta σ [(0, .ref (ad 2)), (1, .int p0), (2, .int p1)] 0 []
  unfold f_Search_tryMarks at h
  refine nw_iload_n C dX8_tryMarks_0 rfl 1 rfl ?_
  refine nw_aload_n C dX8_tryMarks_1 rfl 0 rfl ?_
  refine nw_get (v := .int (σ.1 49)) C in_X8 2 cl_Search rfl 4 (by decide) tw_216 rfl rfl dX8_tryMarks_2 ?_
  refine nw_icmp_ge (tgt := 26) C dX8_tryMarks_5 (by decide) h (fun _ h => ?_) (fun _ h => ?_)
  · exact nw_lv (lv' := [(0, .ref (ad 2)), (2, .int p1)]) [0, 2] rfl (w_Search_tryMarks_26 C hr hrc0 p1 _ _ hφ hφ2 h)
  · refine nw_iload_n C dX8_tryMarks_8 rfl 1 rfl ?_
    refine nw_aload_n C dX8_tryMarks_9 rfl 0 rfl ?_
    refine nw_get (v := .ref (ad 45)) C in_X8 2 cl_Search rfl 2 (by decide) tw_214 rfl rfl dX8_tryMarks_10 ?_
    refine nw_alenI C 45 (cl_I 18 rfl) dX8_tryMarks_13 ?_
    refine nw_st (st' := [.int 6, .int p0]) rfl ?_
    refine nw_icmp_ge (tgt := 26) C dX8_tryMarks_14 (by decide) h (fun _ h => ?_) (fun _ h => ?_)
    · exact nw_lv (lv' := [(0, .ref (ad 2)), (2, .int p1)]) [0, 2] rfl (w_Search_tryMarks_26 C hr hrc0 p1 _ _ hφ hφ2 h)
    · refine nw_iload_n C dX8_tryMarks_17 rfl 1 rfl ?_
      refine nw_aload_n C dX8_tryMarks_18 rfl 0 rfl ?_
      refine nw_get (v := .ref (ad 44)) C in_X8 2 cl_Search rfl 1 (by decide) tw_213 rfl rfl dX8_tryMarks_19 ?_
      refine nw_alenI C 44 (cl_I 17 rfl) dX8_tryMarks_22 ?_
      refine nw_st (st' := [.int 6, .int p0]) rfl ?_
      refine nw_icmp_lt (tgt := 32) C dX8_tryMarks_23 (by decide) h (fun _ h => ?_) (fun _ h => ?_)
      · refine nw_iconst (v := 0) C dX8_tryMarks_32 (by decide) ?_
        refine nw_istore_n (lv' := [(3, .int 0), (0, .ref (ad 2)), (1, .int p0), (2, .int p1)]) C dX8_tryMarks_33 rfl (by decide) rfl ?_
        exact nw_lv (lv' := [(0, .ref (ad 2)), (1, .int p0), (2, .int p1), (3, .int 0)]) [1, 2, 3, 0] rfl (w_Search_tryMarks_34 C hr hrc0 p0 p1 FU 0 _ _ hφ hφ2 h)
      · exact nw_lv (lv' := [(0, .ref (ad 2)), (2, .int p1)]) [0, 2] rfl (w_Search_tryMarks_26 C hr hrc0 p1 _ _ hφ hφ2 h)
def g_S : Nat → Nat → Int32 → Int32 → CS → Option (Int32 × CS)
  | 0, _, _, _, _ => none
  | d + 1, tag, a0, a1, σ => if tag = 0 then f_Search_tryMarks (g_S d) a0 a1 σ else none
set_option maxHeartbeats 4000000 in
theorem cg_S (d : Nat) : (∀ {l : Launch} {g : EG} {ad ta : Nat → Nat} {Rr : va_W} {σ σ' : CS} {r : Int32} {a0 a1 : Int32}, g_S d 0 a0 a1 σ = some (r, σ') → ph σ.2.2 ≤ BB → CtV l g yX8_tryMarks (.code yX8_tryMarks cX8_tryMarks 4 none) (10 * d) (400 * d) ad ta Rr σ [.ref (ad 2), .int a0, .int a1] r σ') := by
  induction d with
  | zero => exact fun h _ => absurd (show (none : Option (Int32 × CS)) = some _ from h) (by intro h9; cases h9)
  | succ d ih =>
    have i0 := @ih
    exact (by intro l g ad ta Rr σ σ' r a0 a1 h hφ2; exact c_Search_tryMarks @i0 h hφ2)
theorem cg_Search_tryMarks (d : Nat) : ∀ {l : Launch} {g : EG} {ad ta : Nat → Nat} {Rr : va_W} {σ σ' : CS} {r : Int32} {a0 a1 : Int32}, g_S d 0 a0 a1 σ = some (r, σ') → ph σ.2.2 ≤ BB → CtV l g yX8_tryMarks (.code yX8_tryMarks cX8_tryMarks 4 none) (10 * d) (400 * d) ad ta Rr σ [.ref (ad 2), .int a0, .int a1] r σ' := fun h hφ2 => (cg_S d) h hφ2
theorem dX8_go_0 : decode cX8_go 0 = .ok (.aload_n 1, 1) := by decide +kernel
theorem dX8_go_1 : decode cX8_go 1 = .ok (.invokevirtual 25, 3) := by decide +kernel
theorem dX8_go_4 : decode cX8_go 4 = .ok (.istore_n 2, 1) := by decide +kernel
theorem dX8_go_5 : decode cX8_go 5 = .ok (.aload_n 0, 1) := by decide +kernel
theorem dX8_go_6 : decode cX8_go 6 = .ok (.iconst 0, 1) := by decide +kernel
theorem dX8_go_7 : decode cX8_go 7 = .ok (.putfield 31, 3) := by decide +kernel
theorem dX8_go_10 : decode cX8_go 10 = .ok (.iload_n 2, 1) := by decide +kernel
theorem dX8_go_11 : decode cX8_go 11 = .ok (.iconst 3, 1) := by decide +kernel
theorem dX8_go_12 : decode cX8_go 12 = .ok (.if_icmp .lt 9, 3) := by decide +kernel
theorem dX8_go_15 : decode cX8_go 15 = .ok (.iload_n 2, 1) := by decide +kernel
theorem dX8_go_16 : decode cX8_go 16 = .ok (.bipush 6, 2) := by decide +kernel
theorem dX8_go_18 : decode cX8_go 18 = .ok (.if_icmp .le 6, 3) := by decide +kernel
theorem dX8_go_21 : decode cX8_go 21 = .ok (.bipush (-2), 2) := by decide +kernel
theorem dX8_go_23 : decode cX8_go 23 = .ok (.ireturn, 1) := by decide +kernel
theorem dX8_go_24 : decode cX8_go 24 = .ok (.aload_n 0, 1) := by decide +kernel
theorem dX8_go_25 : decode cX8_go 25 = .ok (.iload_n 2, 1) := by decide +kernel
theorem dX8_go_26 : decode cX8_go 26 = .ok (.putfield 35, 3) := by decide +kernel
theorem dX8_go_29 : decode cX8_go 29 = .ok (.iconst 0, 1) := by decide +kernel
theorem dX8_go_30 : decode cX8_go 30 = .ok (.istore_n 3, 1) := by decide +kernel
theorem dX8_go_31 : decode cX8_go 31 = .ok (.iload_n 3, 1) := by decide +kernel
theorem dX8_go_32 : decode cX8_go 32 = .ok (.iload_n 2, 1) := by decide +kernel
theorem dX8_go_33 : decode cX8_go 33 = .ok (.if_icmp .ge 30, 3) := by decide +kernel
theorem dX8_go_36 : decode cX8_go 36 = .ok (.iload_n 3, 1) := by decide +kernel
theorem dX8_go_37 : decode cX8_go 37 = .ok (.aload_n 0, 1) := by decide +kernel
theorem dX8_go_38 : decode cX8_go 38 = .ok (.getfield 15, 3) := by decide +kernel
theorem dX8_go_41 : decode cX8_go 41 = .ok (.arraylength, 1) := by decide +kernel
theorem dX8_go_42 : decode cX8_go 42 = .ok (.if_icmp .ge 21, 3) := by decide +kernel
theorem dX8_go_45 : decode cX8_go 45 = .ok (.aload_n 0, 1) := by decide +kernel
theorem dX8_go_46 : decode cX8_go 46 = .ok (.getfield 15, 3) := by decide +kernel
theorem dX8_go_49 : decode cX8_go 49 = .ok (.iload_n 3, 1) := by decide +kernel
theorem dX8_go_50 : decode cX8_go 50 = .ok (.aload_n 1, 1) := by decide +kernel
theorem dX8_go_51 : decode cX8_go 51 = .ok (.iload_n 3, 1) := by decide +kernel
theorem dX8_go_52 : decode cX8_go 52 = .ok (.iconst 0, 1) := by decide +kernel
theorem dX8_go_53 : decode cX8_go 53 = .ok (.invokevirtual 37, 3) := by decide +kernel
theorem dX8_go_56 : decode cX8_go 56 = .ok (.iastore, 1) := by decide +kernel
theorem dX8_go_57 : decode cX8_go 57 = .ok (.iinc 3 1, 3) := by decide +kernel
theorem dX8_go_60 : decode cX8_go 60 = .ok (.goto (-29), 3) := by decide +kernel
theorem dX8_go_63 : decode cX8_go 63 = .ok (.aload_n 0, 1) := by decide +kernel
theorem dX8_go_64 : decode cX8_go 64 = .ok (.iconst 0, 1) := by decide +kernel
theorem dX8_go_65 : decode cX8_go 65 = .ok (.iconst 0, 1) := by decide +kernel
theorem dX8_go_66 : decode cX8_go 66 = .ok (.invokevirtual 41, 3) := by decide +kernel
theorem dX8_go_69 : decode cX8_go 69 = .ok (.aload_n 0, 1) := by decide +kernel
theorem dX8_go_70 : decode cX8_go 70 = .ok (.getfield 31, 3) := by decide +kernel
theorem dX8_go_73 : decode cX8_go 73 = .ok (.ifCond .le 10, 3) := by decide +kernel
theorem dX8_go_76 : decode cX8_go 76 = .ok (.aload_n 0, 1) := by decide +kernel
theorem dX8_go_77 : decode cX8_go 77 = .ok (.getfield 45, 3) := by decide +kernel
theorem dX8_go_80 : decode cX8_go 80 = .ok (.goto 4, 3) := by decide +kernel
theorem dX8_go_83 : decode cX8_go 83 = .ok (.iconst (-1), 1) := by decide +kernel
theorem dX8_go_84 : decode cX8_go 84 = .ok (.ireturn, 1) := by decide +kernel
def L_Search_go_31 (k63 : CS → Option (Int32 × CS)) (x2 : Int32) : Nat → Int32 → CS → Option (Int32 × CS)
  | 0, _, _ => none
  | n + 1, x3, σ => if x2 ≤ x3 then k63 σ else if 6 ≤ x3 then k63 σ else bnd (f_Table_get 0 x3 0 σ) (fun r53 σ53 => gix x3 6 ((L_Search_go_31 k63 x2 n) (x3 + 1) (wr σ53 17 x3 r53)))
set_option maxHeartbeats 4000000 in
set_option maxRecDepth 100000 in
theorem w_Search_go_31 (C : Cx g p s m args meth c A 4 cX8_go yX8_go.cls) (hr : meth.sig.returnType = (some .int))  {res : Int32 × CS}  (x2 : Int32) {k63 : CS → Option (Int32 × CS)} (hk63 : ∀  (σ : CS) (ta : Nat → Nat), φ0 ≤ ph σ.2.2 → ph σ.2.2 ≤ BB → k63  σ = some res → NI g p l e s m args below meth c A 161 6423 4 ad Rr φ0 res ta σ [(0, .ref (ad 2))] 63 []) : ∀ (n : Nat) (x3 : Int32) (σ : CS) (ta : Nat → Nat), φ0 ≤ ph σ.2.2 → ph σ.2.2 ≤ BB → L_Search_go_31 k63 x2 n x3 σ = some res → NI g p l e s m args below meth c A 161 6423 4 ad Rr φ0 res ta σ [(0, .ref (ad 2)), (1, .ref (ad 11)), (2, .int x2), (3, .int x3)] 31 [] := by
  intro n
  induction n with
  | zero =>
    intro x3 σ ta hφ hφ2 h
    exact absurd (show (none : Option (Int32 × CS)) = some res from h) (by intro h9; cases h9)
  | succ n ih =>
    intro x3 σ ta hφ hφ2 h
    rw [L_Search_go_31] at h
    refine nw_iload_n C dX8_go_31 rfl 3 rfl ?_
    refine nw_iload_n C dX8_go_32 rfl 2 rfl ?_
    refine nw_icmp_ge (tgt := 63) C dX8_go_33 (by decide) h (fun _ h => ?_) (fun _ h => ?_)
    · exact nw_lv (lv' := [(0, .ref (ad 2))]) [0] rfl (hk63  _ _ hφ hφ2 h)
    · refine nw_iload_n C dX8_go_36 rfl 3 rfl ?_
      refine nw_aload_n C dX8_go_37 rfl 0 rfl ?_
      refine nw_get (v := .ref (ad 44)) C in_X8 2 cl_Search rfl 1 (by decide) tw_213 rfl rfl dX8_go_38 ?_
      refine nw_alenI C 44 (cl_I 17 rfl) dX8_go_41 ?_
      refine nw_st (st' := [.int 6, .int x3]) rfl ?_
      refine nw_icmp_ge (tgt := 63) C dX8_go_42 (by decide) h (fun _ h => ?_) (fun _ h => ?_)
      · exact nw_lv (lv' := [(0, .ref (ad 2))]) [0] rfl (hk63  _ _ hφ hφ2 h)
      · refine nw_aload_n C dX8_go_45 rfl 0 rfl ?_
        refine nw_get (v := .ref (ad 44)) C in_X8 2 cl_Search rfl 1 (by decide) tw_213 rfl rfl dX8_go_46 ?_
        refine nw_iload_n C dX8_go_49 rfl 3 rfl ?_
        refine nw_aload_n C dX8_go_50 rfl 1 rfl ?_
        refine nw_iload_n C dX8_go_51 rfl 3 rfl ?_
        refine nw_iconst (v := 0) C dX8_go_52 (by decide) ?_
        refine nc_callVI (q0 := 11) (As := [.int x3, .int 0]) (rest := [.int x3, .ref (ad 44)]) C h (fun _ _ e => c_Table_get 0 (by decide) e hφ2) tw_1049 kv_X9_get (cl_T 0 (by decide)) rfl ⟨Nat.le_of_ble_eq_true rfl, Nat.le_of_ble_eq_true rfl⟩ rfl dX8_go_53 rfl (Nat.le_of_ble_eq_true rfl) hφ hφ2 (fun r53 σ53 ta h hφ hφ2 => ?_)
        refine nw_iast C 44 (cl_I 17 rfl) dX8_go_56 h (cs_I 17 rfl) (fun h => ?_)
        refine nw_iinc (lv' := [(3, .int (x3 + 1)), (0, .ref (ad 2)), (1, .ref (ad 11)), (2, .int x2)]) C (x3 + 1) dX8_go_57 3 rfl rfl (by decide) rfl ?_
        refine nw_goto (tgt := 31) C dX8_go_60 (by decide) ?_
        exact nw_lv (lv' := [(0, .ref (ad 2)), (1, .ref (ad 11)), (2, .int x2), (3, .int (x3 + 1))]) [1, 2, 3, 0] rfl (ih (x3 + 1) _ _ hφ hφ2 h)
def B_Search_go_63    (σ : CS) : Option (Int32 × CS) := bnd (g_S 16 0 0 0 σ) (fun _ σ66 => if (σ66.1 51) ≤ 0 then some ((-1), σ66) else some ((σ66.1 50), σ66))
set_option maxHeartbeats 4000000 in
set_option maxRecDepth 100000 in
theorem w_Search_go_63 (C : Cx g p s m args meth c A 4 cX8_go yX8_go.cls) (hr : meth.sig.returnType = (some .int))  {res : Int32 × CS}     (σ : CS) (ta : Nat → Nat) (hφ : φ0 ≤ ph σ.2.2) (hφ2 : ph σ.2.2 ≤ BB) (h : B_Search_go_63 σ = some res) : NI g p l e s m args below meth c A 161 6423 4 ad Rr φ0 res ta σ [(0, .ref (ad 2))] 63 [] := by
  unfold B_Search_go_63 at h
  refine nw_aload_n C dX8_go_63 rfl 0 rfl ?_
  refine nw_iconst (v := 0) C dX8_go_64 (by decide) ?_
  refine nw_iconst (v := 0) C dX8_go_65 (by decide) ?_
  refine nc_callVV (q0 := 2) (As := [.int 0, .int 0]) (rest := []) C h (fun _ _ e => cg_Search_tryMarks 16 e hφ2) tw_1050 kv_X8_tryMarks cl_Search rfl ⟨Nat.le_of_ble_eq_true rfl, Nat.le_of_ble_eq_true rfl⟩ rfl dX8_go_66 rfl (Nat.le_of_ble_eq_true rfl) hφ hφ2 (fun r66 σ66 ta h hφ hφ2 => ?_)
  refine nw_aload_n C dX8_go_69 rfl 0 rfl ?_
  refine nw_get (v := .int (σ66.1 51)) C in_X8 2 cl_Search rfl 6 (by decide) tw_218 rfl rfl dX8_go_70 ?_
  refine nw_if_le (tgt := 83) C dX8_go_73 (by decide) h (fun _ h => ?_) (fun _ h => ?_)
  · refine nw_iconst (v := (-1)) C dX8_go_83 (by decide) ?_
    exact nc_iret C hr dX8_go_84 hφ hφ2 h
  · refine nw_aload_n C dX8_go_76 rfl 0 rfl ?_
    refine nw_get (v := .int (σ66.1 50)) C in_X8 2 cl_Search rfl 5 (by decide) tw_217 rfl rfl dX8_go_77 ?_
    refine nw_goto (tgt := 84) C dX8_go_80 (by decide) ?_
    exact nc_iret C hr dX8_go_84 hφ hφ2 h
def f_Search_go  (σ : CS) : Option (Int32 × CS) := bnd (f_Table_size 0 σ) (fun r1 σ1 => if r1 < 3 then some ((-2), (sF σ1 51 0)) else if r1 ≤ 6 then L_Search_go_31 (B_Search_go_63) r1 FU 0 (sF (sF σ1 51 0) 49 r1) else some ((-2), (sF σ1 51 0)))
set_option maxHeartbeats 4000000 in
set_option maxRecDepth 100000 in
theorem c_Search_go {l : Launch} {g : EG} {ad ta : Nat → Nat} {Rr : va_W} {σ σ' : CS} {r : Int32}   (h : f_Search_go σ = some (r, σ')) (hφ2 : ph σ.2.2 ≤ BB) : CtI l g yX8_go (.code yX8_go cX8_go 4 (some .int)) 161 6423 ad ta Rr σ [.ref (ad 2), .ref (ad 11)] r σ' := by
  refine Ct.of rfl (by decide) (Nat.le_of_ble_eq_true rfl) ?_
  intro p e s m args below meth c A C hr
  have hφ : ph σ.2.2 ≤ ph σ.2.2 := Nat.le_refl _
  refine nw_zero (ph σ.2.2) ?_
  show NI g p l e s m args below meth c A 161 6423 4 ad Rr (ph σ.2.2) (r, σ') ta σ [(0, .ref (ad 2)), (1, .ref (ad 11))] 0 []
  unfold f_Search_go at h
  refine nw_aload_n C dX8_go_0 rfl 1 rfl ?_
  refine nc_callVI (q0 := 11) (As := []) (rest := []) C h (fun _ _ e => c_Table_size 0 (by decide) e hφ2) tw_1048 kv_X9_size (cl_T 0 (by decide)) rfl ⟨Nat.le_of_ble_eq_true rfl, Nat.le_of_ble_eq_true rfl⟩ rfl dX8_go_1 rfl (Nat.le_of_ble_eq_true rfl) hφ hφ2 (fun r1 σ1 ta h hφ hφ2 => ?_)
  refine nw_istore_n (lv' := [(2, .int r1), (0, .ref (ad 2)), (1, .ref (ad 11))]) C dX8_go_4 rfl (by decide) rfl ?_
  refine nw_aload_n C dX8_go_5 rfl 1 rfl ?_
  refine nw_iconst (v := 0) C dX8_go_6 (by decide) ?_
  refine nw_put (ty := .int) C in_X8 2 cl_Search rfl 6 (by decide) tyX8 tyX8_ok nmX8 tw_218 rfl rfl (by decide +kernel) rfl rfl (Nat.le_of_ble_eq_true rfl) dX8_go_7 cs_Search_found ?_
  refine nw_iload_n C dX8_go_10 rfl 0 rfl ?_
  refine nw_iconst (v := 3) C dX8_go_11 (by decide) ?_
  refine nw_icmp_lt (tgt := 21) C dX8_go_12 (by decide) h (fun _ h => ?_) (fun _ h => ?_)
  · refine nw_bipush (v := (-2)) C dX8_go_21 (by decide) ?_
    exact nc_iret C hr dX8_go_23 hφ hφ2 h
  · refine nw_iload_n C dX8_go_15 rfl 0 rfl ?_
    refine nw_bipush (v := 6) C dX8_go_16 (by decide) ?_
    refine nw_icmp_le (tgt := 24) C dX8_go_18 (by decide) h (fun _ h => ?_) (fun _ h => ?_)
    · refine nw_aload_n C dX8_go_24 rfl 1 rfl ?_
      refine nw_iload_n C dX8_go_25 rfl 0 rfl ?_
      refine nw_put (ty := .int) C in_X8 2 cl_Search rfl 4 (by decide) tyX8 tyX8_ok nmX8 tw_216 rfl rfl (by decide +kernel) rfl rfl (Nat.le_of_ble_eq_true rfl) dX8_go_26 cs_Search_size ?_
      refine nw_iconst (v := 0) C dX8_go_29 (by decide) ?_
      refine nw_istore_n (lv' := [(3, .int 0), (2, .int r1), (0, .ref (ad 2)), (1, .ref (ad 11))]) C dX8_go_30 rfl (by decide) rfl ?_
      exact nw_lv (lv' := [(0, .ref (ad 2)), (1, .ref (ad 11)), (2, .int r1), (3, .int 0)]) [2, 3, 1, 0] rfl (w_Search_go_31 C hr r1 (fun σ_ ta_ hφ_ hφ2_ h_ => w_Search_go_63 C hr σ_ ta_ hφ_ hφ2_ h_) FU 0 _ _ hφ hφ2 h)
    · refine nw_bipush (v := (-2)) C dX8_go_21 (by decide) ?_
      exact nc_iret C hr dX8_go_23 hφ hφ2 h
theorem dX10_addWood_0 : decode cX10_addWood 0 = .ok (.aload_n 0, 1) := by decide +kernel
theorem dX10_addWood_1 : decode cX10_addWood 1 = .ok (.getfield 14, 3) := by decide +kernel
theorem dX10_addWood_4 : decode cX10_addWood 4 = .ok (.invokevirtual 23, 3) := by decide +kernel
theorem dX10_addWood_7 : decode cX10_addWood 7 = .ok (.istore 4, 2) := by decide +kernel
theorem dX10_addWood_9 : decode cX10_addWood 9 = .ok (.aload_n 0, 1) := by decide +kernel
theorem dX10_addWood_10 : decode cX10_addWood 10 = .ok (.getfield 14, 3) := by decide +kernel
theorem dX10_addWood_13 : decode cX10_addWood 13 = .ok (.iload 4, 2) := by decide +kernel
theorem dX10_addWood_15 : decode cX10_addWood 15 = .ok (.iconst 0, 1) := by decide +kernel
theorem dX10_addWood_16 : decode cX10_addWood 16 = .ok (.iload_n 1, 1) := by decide +kernel
theorem dX10_addWood_17 : decode cX10_addWood 17 = .ok (.invokevirtual 27, 3) := by decide +kernel
theorem dX10_addWood_20 : decode cX10_addWood 20 = .ok (.aload_n 0, 1) := by decide +kernel
theorem dX10_addWood_21 : decode cX10_addWood 21 = .ok (.getfield 14, 3) := by decide +kernel
theorem dX10_addWood_24 : decode cX10_addWood 24 = .ok (.iload 4, 2) := by decide +kernel
theorem dX10_addWood_26 : decode cX10_addWood 26 = .ok (.iconst 1, 1) := by decide +kernel
theorem dX10_addWood_27 : decode cX10_addWood 27 = .ok (.iload_n 2, 1) := by decide +kernel
theorem dX10_addWood_28 : decode cX10_addWood 28 = .ok (.invokevirtual 27, 3) := by decide +kernel
theorem dX10_addWood_31 : decode cX10_addWood 31 = .ok (.aload_n 0, 1) := by decide +kernel
theorem dX10_addWood_32 : decode cX10_addWood 32 = .ok (.getfield 14, 3) := by decide +kernel
theorem dX10_addWood_35 : decode cX10_addWood 35 = .ok (.iload 4, 2) := by decide +kernel
theorem dX10_addWood_37 : decode cX10_addWood 37 = .ok (.iconst 2, 1) := by decide +kernel
theorem dX10_addWood_38 : decode cX10_addWood 38 = .ok (.iload_n 3, 1) := by decide +kernel
theorem dX10_addWood_39 : decode cX10_addWood 39 = .ok (.invokevirtual 27, 3) := by decide +kernel
theorem dX10_addWood_42 : decode cX10_addWood 42 = .ok (.iload 4, 2) := by decide +kernel
theorem dX10_addWood_44 : decode cX10_addWood 44 = .ok (.ireturn, 1) := by decide +kernel
def f_Woods_addWood (p0 : Int32) (p1 : Int32) (p2 : Int32) (σ : CS) : Option (Int32 × CS) := bnd (f_Table_add 14 σ) (fun r4 σ4 => bnd (f_Table_put 14 r4 0 p0 σ4) (fun _ σ17 => bnd (f_Table_put 14 r4 1 p1 σ17) (fun _ σ28 => bnd (f_Table_put 14 r4 2 p2 σ28) (fun _ σ39 => some (r4, σ39)))))
set_option maxHeartbeats 4000000 in
set_option maxRecDepth 100000 in
theorem c_Woods_addWood {l : Launch} {g : EG} {ad ta : Nat → Nat} {Rr : va_W} {σ σ' : CS} {r : Int32} {p0 : Int32} {p1 : Int32} {p2 : Int32}  (h : f_Woods_addWood p0 p1 p2 σ = some (r, σ')) (hφ2 : ph σ.2.2 ≤ BB) : CtI l g yX10_addWood (.code yX10_addWood cX10_addWood 5 (some .int)) 5 222 ad ta Rr σ [.ref (ad 10), .int p0, .int p1, .int p2] r σ' := by
  refine Ct.of rfl (by decide) (Nat.le_of_ble_eq_true rfl) ?_
  intro p e s m args below meth c A C hr
  have hφ : ph σ.2.2 ≤ ph σ.2.2 := Nat.le_refl _
  refine nw_zero (ph σ.2.2) ?_
  show NI g p l e s m args below meth c A 5 222 5 ad Rr (ph σ.2.2) (r, σ') ta σ [(0, .ref (ad 10)), (1, .int p0), (2, .int p1), (3, .int p2)] 0 []
  unfold f_Woods_addWood at h
  refine nw_aload_n C dX10_addWood_0 rfl 0 rfl ?_
  refine nw_get (v := .ref (ad 25)) C in_X10 10 cl_Woods rfl 0 (by decide) tw_501 rfl rfl dX10_addWood_1 ?_
  refine nc_callVI (q0 := 25) (As := []) (rest := []) C h (fun _ _ e => c_Table_add 14 (by decide) e hφ2) tw_1529 kv_X9_add (cl_T 14 (by decide)) rfl ⟨Nat.le_of_ble_eq_true rfl, Nat.le_of_ble_eq_true rfl⟩ rfl dX10_addWood_4 rfl (Nat.le_of_ble_eq_true rfl) hφ hφ2 (fun r4 σ4 ta h hφ hφ2 => ?_)
  refine nw_istore (lv' := [(4, .int r4), (0, .ref (ad 10)), (1, .int p0), (2, .int p1), (3, .int p2)]) C dX10_addWood_7 (by decide) rfl ?_
  refine nw_aload_n C dX10_addWood_9 rfl 1 rfl ?_
  refine nw_get (v := .ref (ad 25)) C in_X10 10 cl_Woods rfl 0 (by decide) tw_501 rfl rfl dX10_addWood_10 ?_
  refine nw_iload C dX10_addWood_13 0 rfl ?_
  refine nw_iconst (v := 0) C dX10_addWood_15 (by decide) ?_
  refine nw_iload_n C dX10_addWood_16 rfl 2 rfl ?_
  refine nc_callVV (q0 := 25) (As := [.int r4, .int 0, .int p0]) (rest := []) C h (fun _ _ e => c_Table_put 14 (by decide) e hφ2) tw_1530 kv_X9_put (cl_T 14 (by decide)) rfl ⟨Nat.le_of_ble_eq_true rfl, Nat.le_of_ble_eq_true rfl⟩ rfl dX10_addWood_17 rfl (Nat.le_of_ble_eq_true rfl) hφ hφ2 (fun r17 σ17 ta h hφ hφ2 => ?_)
  refine nw_aload_n C dX10_addWood_20 rfl 1 rfl ?_
  refine nw_get (v := .ref (ad 25)) C in_X10 10 cl_Woods rfl 0 (by decide) tw_501 rfl rfl dX10_addWood_21 ?_
  refine nw_iload C dX10_addWood_24 0 rfl ?_
  refine nw_iconst (v := 1) C dX10_addWood_26 (by decide) ?_
  refine nw_iload_n C dX10_addWood_27 rfl 3 rfl ?_
  refine nc_callVV (q0 := 25) (As := [.int r4, .int 1, .int p1]) (rest := []) C h (fun _ _ e => c_Table_put 14 (by decide) e hφ2) tw_1530 kv_X9_put (cl_T 14 (by decide)) rfl ⟨Nat.le_of_ble_eq_true rfl, Nat.le_of_ble_eq_true rfl⟩ rfl dX10_addWood_28 rfl (Nat.le_of_ble_eq_true rfl) hφ hφ2 (fun r28 σ28 ta h hφ hφ2 => ?_)
  refine nw_aload_n C dX10_addWood_31 rfl 1 rfl ?_
  refine nw_get (v := .ref (ad 25)) C in_X10 10 cl_Woods rfl 0 (by decide) tw_501 rfl rfl dX10_addWood_32 ?_
  refine nw_iload C dX10_addWood_35 0 rfl ?_
  refine nw_iconst (v := 2) C dX10_addWood_37 (by decide) ?_
  refine nw_iload_n C dX10_addWood_38 rfl 4 rfl ?_
  refine nc_callVV (q0 := 25) (As := [.int r4, .int 2, .int p2]) (rest := []) C h (fun _ _ e => c_Table_put 14 (by decide) e hφ2) tw_1530 kv_X9_put (cl_T 14 (by decide)) rfl ⟨Nat.le_of_ble_eq_true rfl, Nat.le_of_ble_eq_true rfl⟩ rfl dX10_addWood_39 rfl (Nat.le_of_ble_eq_true rfl) hφ hφ2 (fun r39 σ39 ta h hφ hφ2 => ?_)
  refine nw_iload C dX10_addWood_42 0 rfl ?_
  exact nc_iret C hr dX10_addWood_44 hφ hφ2 h
theorem dX10_firstYear_0 : decode cX10_firstYear 0 = .ok (.aload_n 0, 1) := by decide +kernel
theorem dX10_firstYear_1 : decode cX10_firstYear 1 = .ok (.getfield 14, 3) := by decide +kernel
theorem dX10_firstYear_4 : decode cX10_firstYear 4 = .ok (.iload_n 1, 1) := by decide +kernel
theorem dX10_firstYear_5 : decode cX10_firstYear 5 = .ok (.iconst 0, 1) := by decide +kernel
theorem dX10_firstYear_6 : decode cX10_firstYear 6 = .ok (.invokevirtual 31, 3) := by decide +kernel
theorem dX10_firstYear_9 : decode cX10_firstYear 9 = .ok (.ireturn, 1) := by decide +kernel
def f_Woods_firstYear (p0 : Int32) (σ : CS) : Option (Int32 × CS) := bnd (f_Table_get 14 p0 0 σ) (fun r6 σ6 => some (r6, σ6))
set_option maxHeartbeats 4000000 in
set_option maxRecDepth 100000 in
theorem c_Woods_firstYear {l : Launch} {g : EG} {ad ta : Nat → Nat} {Rr : va_W} {σ σ' : CS} {r : Int32} {p0 : Int32}  (h : f_Woods_firstYear p0 σ = some (r, σ')) (hφ2 : ph σ.2.2 ≤ BB) : CtI l g yX10_firstYear (.code yX10_firstYear cX10_firstYear 2 (some .int)) 1 23 ad ta Rr σ [.ref (ad 10), .int p0] r σ' := by
  refine Ct.of rfl (by decide) (Nat.le_of_ble_eq_true rfl) ?_
  intro p e s m args below meth c A C hr
  have hφ : ph σ.2.2 ≤ ph σ.2.2 := Nat.le_refl _
  refine nw_zero (ph σ.2.2) ?_
  show NI g p l e s m args below meth c A 1 23 2 ad Rr (ph σ.2.2) (r, σ') ta σ [(0, .ref (ad 10)), (1, .int p0)] 0 []
  unfold f_Woods_firstYear at h
  refine nw_aload_n C dX10_firstYear_0 rfl 0 rfl ?_
  refine nw_get (v := .ref (ad 25)) C in_X10 10 cl_Woods rfl 0 (by decide) tw_501 rfl rfl dX10_firstYear_1 ?_
  refine nw_iload_n C dX10_firstYear_4 rfl 1 rfl ?_
  refine nw_iconst (v := 0) C dX10_firstYear_5 (by decide) ?_
  refine nc_callVI (q0 := 25) (As := [.int p0, .int 0]) (rest := []) C h (fun _ _ e => c_Table_get 14 (by decide) e hφ2) tw_1542 kv_X9_get (cl_T 14 (by decide)) rfl ⟨Nat.le_of_ble_eq_true rfl, Nat.le_of_ble_eq_true rfl⟩ rfl dX10_firstYear_6 rfl (Nat.le_of_ble_eq_true rfl) hφ hφ2 (fun r6 σ6 ta h hφ hφ2 => ?_)
  exact nc_iret C hr dX10_firstYear_9 hφ hφ2 h
theorem dX10_addTaking_0 : decode cX10_addTaking 0 = .ok (.aload_n 0, 1) := by decide +kernel
theorem dX10_addTaking_1 : decode cX10_addTaking 1 = .ok (.getfield 20, 3) := by decide +kernel
theorem dX10_addTaking_4 : decode cX10_addTaking 4 = .ok (.invokevirtual 23, 3) := by decide +kernel
theorem dX10_addTaking_7 : decode cX10_addTaking 7 = .ok (.istore 6, 2) := by decide +kernel
theorem dX10_addTaking_9 : decode cX10_addTaking 9 = .ok (.iload 6, 2) := by decide +kernel
theorem dX10_addTaking_11 : decode cX10_addTaking 11 = .ok (.iconst (-1), 1) := by decide +kernel
theorem dX10_addTaking_12 : decode cX10_addTaking 12 = .ok (.if_icmp .ne 5, 3) := by decide +kernel
theorem dX10_addTaking_15 : decode cX10_addTaking 15 = .ok (.iconst (-1), 1) := by decide +kernel
theorem dX10_addTaking_16 : decode cX10_addTaking 16 = .ok (.ireturn, 1) := by decide +kernel
theorem dX10_addTaking_17 : decode cX10_addTaking 17 = .ok (.aload_n 0, 1) := by decide +kernel
theorem dX10_addTaking_18 : decode cX10_addTaking 18 = .ok (.getfield 20, 3) := by decide +kernel
theorem dX10_addTaking_21 : decode cX10_addTaking 21 = .ok (.iload 6, 2) := by decide +kernel
theorem dX10_addTaking_23 : decode cX10_addTaking 23 = .ok (.iconst 0, 1) := by decide +kernel
theorem dX10_addTaking_24 : decode cX10_addTaking 24 = .ok (.iload_n 1, 1) := by decide +kernel
theorem dX10_addTaking_25 : decode cX10_addTaking 25 = .ok (.invokevirtual 27, 3) := by decide +kernel
theorem dX10_addTaking_28 : decode cX10_addTaking 28 = .ok (.aload_n 0, 1) := by decide +kernel
theorem dX10_addTaking_29 : decode cX10_addTaking 29 = .ok (.getfield 20, 3) := by decide +kernel
theorem dX10_addTaking_32 : decode cX10_addTaking 32 = .ok (.iload 6, 2) := by decide +kernel
theorem dX10_addTaking_34 : decode cX10_addTaking 34 = .ok (.iconst 1, 1) := by decide +kernel
theorem dX10_addTaking_35 : decode cX10_addTaking 35 = .ok (.iload_n 2, 1) := by decide +kernel
theorem dX10_addTaking_36 : decode cX10_addTaking 36 = .ok (.invokevirtual 27, 3) := by decide +kernel
theorem dX10_addTaking_39 : decode cX10_addTaking 39 = .ok (.aload_n 0, 1) := by decide +kernel
theorem dX10_addTaking_40 : decode cX10_addTaking 40 = .ok (.getfield 20, 3) := by decide +kernel
theorem dX10_addTaking_43 : decode cX10_addTaking 43 = .ok (.iload 6, 2) := by decide +kernel
theorem dX10_addTaking_45 : decode cX10_addTaking 45 = .ok (.iconst 2, 1) := by decide +kernel
theorem dX10_addTaking_46 : decode cX10_addTaking 46 = .ok (.iload_n 3, 1) := by decide +kernel
theorem dX10_addTaking_47 : decode cX10_addTaking 47 = .ok (.invokevirtual 27, 3) := by decide +kernel
theorem dX10_addTaking_50 : decode cX10_addTaking 50 = .ok (.aload_n 0, 1) := by decide +kernel
theorem dX10_addTaking_51 : decode cX10_addTaking 51 = .ok (.getfield 20, 3) := by decide +kernel
theorem dX10_addTaking_54 : decode cX10_addTaking 54 = .ok (.iload 6, 2) := by decide +kernel
theorem dX10_addTaking_56 : decode cX10_addTaking 56 = .ok (.iconst 3, 1) := by decide +kernel
theorem dX10_addTaking_57 : decode cX10_addTaking 57 = .ok (.iload 4, 2) := by decide +kernel
theorem dX10_addTaking_59 : decode cX10_addTaking 59 = .ok (.invokevirtual 27, 3) := by decide +kernel
theorem dX10_addTaking_62 : decode cX10_addTaking 62 = .ok (.aload_n 0, 1) := by decide +kernel
theorem dX10_addTaking_63 : decode cX10_addTaking 63 = .ok (.getfield 20, 3) := by decide +kernel
theorem dX10_addTaking_66 : decode cX10_addTaking 66 = .ok (.iload 6, 2) := by decide +kernel
theorem dX10_addTaking_68 : decode cX10_addTaking 68 = .ok (.iconst 4, 1) := by decide +kernel
theorem dX10_addTaking_69 : decode cX10_addTaking 69 = .ok (.iload 5, 2) := by decide +kernel
theorem dX10_addTaking_71 : decode cX10_addTaking 71 = .ok (.invokevirtual 27, 3) := by decide +kernel
theorem dX10_addTaking_74 : decode cX10_addTaking 74 = .ok (.aload_n 0, 1) := by decide +kernel
theorem dX10_addTaking_75 : decode cX10_addTaking 75 = .ok (.getfield 20, 3) := by decide +kernel
theorem dX10_addTaking_78 : decode cX10_addTaking 78 = .ok (.invokevirtual 35, 3) := by decide +kernel
theorem dX10_addTaking_81 : decode cX10_addTaking 81 = .ok (.ireturn, 1) := by decide +kernel
def f_Woods_addTaking (p0 : Int32) (p1 : Int32) (p2 : Int32) (p3 : Int32) (p4 : Int32) (σ : CS) : Option (Int32 × CS) := bnd (f_Table_add 15 σ) (fun r4 σ4 => if r4 = (-1) then some ((-1), σ4) else bnd (f_Table_put 15 r4 0 p0 σ4) (fun _ σ25 => bnd (f_Table_put 15 r4 1 p1 σ25) (fun _ σ36 => bnd (f_Table_put 15 r4 2 p2 σ36) (fun _ σ47 => bnd (f_Table_put 15 r4 3 p3 σ47) (fun _ σ59 => bnd (f_Table_put 15 r4 4 p4 σ59) (fun _ σ71 => bnd (f_Table_size 15 σ71) (fun r78 σ78 => some (r78, σ78))))))))
set_option maxHeartbeats 4000000 in
set_option maxRecDepth 100000 in
theorem c_Woods_addTaking {l : Launch} {g : EG} {ad ta : Nat → Nat} {Rr : va_W} {σ σ' : CS} {r : Int32} {p0 : Int32} {p1 : Int32} {p2 : Int32} {p3 : Int32} {p4 : Int32}  (h : f_Woods_addTaking p0 p1 p2 p3 p4 σ = some (r, σ')) (hφ2 : ph σ.2.2 ≤ BB) : CtI l g yX10_addTaking (.code yX10_addTaking cX10_addTaking 7 (some .int)) 5 222 ad ta Rr σ [.ref (ad 10), .int p0, .int p1, .int p2, .int p3, .int p4] r σ' := by
  refine Ct.of rfl (by decide) (Nat.le_of_ble_eq_true rfl) ?_
  intro p e s m args below meth c A C hr
  have hφ : ph σ.2.2 ≤ ph σ.2.2 := Nat.le_refl _
  refine nw_zero (ph σ.2.2) ?_
  show NI g p l e s m args below meth c A 5 222 7 ad Rr (ph σ.2.2) (r, σ') ta σ [(0, .ref (ad 10)), (1, .int p0), (2, .int p1), (3, .int p2), (4, .int p3), (5, .int p4)] 0 []
  unfold f_Woods_addTaking at h
  refine nw_aload_n C dX10_addTaking_0 rfl 0 rfl ?_
  refine nw_get (v := .ref (ad 26)) C in_X10 10 cl_Woods rfl 1 (by decide) tw_503 rfl rfl dX10_addTaking_1 ?_
  refine nc_callVI (q0 := 26) (As := []) (rest := []) C h (fun _ _ e => c_Table_add 15 (by decide) e hφ2) tw_1529 kv_X9_add (cl_T 15 (by decide)) rfl ⟨Nat.le_of_ble_eq_true rfl, Nat.le_of_ble_eq_true rfl⟩ rfl dX10_addTaking_4 rfl (Nat.le_of_ble_eq_true rfl) hφ hφ2 (fun r4 σ4 ta h hφ hφ2 => ?_)
  refine nw_istore (lv' := [(6, .int r4), (0, .ref (ad 10)), (1, .int p0), (2, .int p1), (3, .int p2), (4, .int p3), (5, .int p4)]) C dX10_addTaking_7 (by decide) rfl ?_
  refine nw_iload C dX10_addTaking_9 0 rfl ?_
  refine nw_iconst (v := (-1)) C dX10_addTaking_11 (by decide) ?_
  refine nw_icmp_ne (tgt := 17) C dX10_addTaking_12 (by decide) h (fun _ h => ?_) (fun _ h => ?_)
  · refine nw_iconst (v := (-1)) C dX10_addTaking_15 (by decide) ?_
    exact nc_iret C hr dX10_addTaking_16 hφ hφ2 h
  · refine nw_aload_n C dX10_addTaking_17 rfl 1 rfl ?_
    refine nw_get (v := .ref (ad 26)) C in_X10 10 cl_Woods rfl 1 (by decide) tw_503 rfl rfl dX10_addTaking_18 ?_
    refine nw_iload C dX10_addTaking_21 0 rfl ?_
    refine nw_iconst (v := 0) C dX10_addTaking_23 (by decide) ?_
    refine nw_iload_n C dX10_addTaking_24 rfl 2 rfl ?_
    refine nc_callVV (q0 := 26) (As := [.int r4, .int 0, .int p0]) (rest := []) C h (fun _ _ e => c_Table_put 15 (by decide) e hφ2) tw_1530 kv_X9_put (cl_T 15 (by decide)) rfl ⟨Nat.le_of_ble_eq_true rfl, Nat.le_of_ble_eq_true rfl⟩ rfl dX10_addTaking_25 rfl (Nat.le_of_ble_eq_true rfl) hφ hφ2 (fun r25 σ25 ta h hφ hφ2 => ?_)
    refine nw_aload_n C dX10_addTaking_28 rfl 1 rfl ?_
    refine nw_get (v := .ref (ad 26)) C in_X10 10 cl_Woods rfl 1 (by decide) tw_503 rfl rfl dX10_addTaking_29 ?_
    refine nw_iload C dX10_addTaking_32 0 rfl ?_
    refine nw_iconst (v := 1) C dX10_addTaking_34 (by decide) ?_
    refine nw_iload_n C dX10_addTaking_35 rfl 3 rfl ?_
    refine nc_callVV (q0 := 26) (As := [.int r4, .int 1, .int p1]) (rest := []) C h (fun _ _ e => c_Table_put 15 (by decide) e hφ2) tw_1530 kv_X9_put (cl_T 15 (by decide)) rfl ⟨Nat.le_of_ble_eq_true rfl, Nat.le_of_ble_eq_true rfl⟩ rfl dX10_addTaking_36 rfl (Nat.le_of_ble_eq_true rfl) hφ hφ2 (fun r36 σ36 ta h hφ hφ2 => ?_)
    refine nw_aload_n C dX10_addTaking_39 rfl 1 rfl ?_
    refine nw_get (v := .ref (ad 26)) C in_X10 10 cl_Woods rfl 1 (by decide) tw_503 rfl rfl dX10_addTaking_40 ?_
    refine nw_iload C dX10_addTaking_43 0 rfl ?_
    refine nw_iconst (v := 2) C dX10_addTaking_45 (by decide) ?_
    refine nw_iload_n C dX10_addTaking_46 rfl 4 rfl ?_
    refine nc_callVV (q0 := 26) (As := [.int r4, .int 2, .int p2]) (rest := []) C h (fun _ _ e => c_Table_put 15 (by decide) e hφ2) tw_1530 kv_X9_put (cl_T 15 (by decide)) rfl ⟨Nat.le_of_ble_eq_true rfl, Nat.le_of_ble_eq_true rfl⟩ rfl dX10_addTaking_47 rfl (Nat.le_of_ble_eq_true rfl) hφ hφ2 (fun r47 σ47 ta h hφ hφ2 => ?_)
    refine nw_aload_n C dX10_addTaking_50 rfl 1 rfl ?_
    refine nw_get (v := .ref (ad 26)) C in_X10 10 cl_Woods rfl 1 (by decide) tw_503 rfl rfl dX10_addTaking_51 ?_
    refine nw_iload C dX10_addTaking_54 0 rfl ?_
    refine nw_iconst (v := 3) C dX10_addTaking_56 (by decide) ?_
    refine nw_iload C dX10_addTaking_57 5 rfl ?_
    refine nc_callVV (q0 := 26) (As := [.int r4, .int 3, .int p3]) (rest := []) C h (fun _ _ e => c_Table_put 15 (by decide) e hφ2) tw_1530 kv_X9_put (cl_T 15 (by decide)) rfl ⟨Nat.le_of_ble_eq_true rfl, Nat.le_of_ble_eq_true rfl⟩ rfl dX10_addTaking_59 rfl (Nat.le_of_ble_eq_true rfl) hφ hφ2 (fun r59 σ59 ta h hφ hφ2 => ?_)
    refine nw_aload_n C dX10_addTaking_62 rfl 1 rfl ?_
    refine nw_get (v := .ref (ad 26)) C in_X10 10 cl_Woods rfl 1 (by decide) tw_503 rfl rfl dX10_addTaking_63 ?_
    refine nw_iload C dX10_addTaking_66 0 rfl ?_
    refine nw_iconst (v := 4) C dX10_addTaking_68 (by decide) ?_
    refine nw_iload C dX10_addTaking_69 6 rfl ?_
    refine nc_callVV (q0 := 26) (As := [.int r4, .int 4, .int p4]) (rest := []) C h (fun _ _ e => c_Table_put 15 (by decide) e hφ2) tw_1530 kv_X9_put (cl_T 15 (by decide)) rfl ⟨Nat.le_of_ble_eq_true rfl, Nat.le_of_ble_eq_true rfl⟩ rfl dX10_addTaking_71 rfl (Nat.le_of_ble_eq_true rfl) hφ hφ2 (fun r71 σ71 ta h hφ hφ2 => ?_)
    refine nw_aload_n C dX10_addTaking_74 rfl 1 rfl ?_
    refine nw_get (v := .ref (ad 26)) C in_X10 10 cl_Woods rfl 1 (by decide) tw_503 rfl rfl dX10_addTaking_75 ?_
    refine nc_callVI (q0 := 26) (As := []) (rest := []) C h (fun _ _ e => c_Table_size 15 (by decide) e hφ2) tw_1547 kv_X9_size (cl_T 15 (by decide)) rfl ⟨Nat.le_of_ble_eq_true rfl, Nat.le_of_ble_eq_true rfl⟩ rfl dX10_addTaking_78 rfl (Nat.le_of_ble_eq_true rfl) hφ hφ2 (fun r78 σ78 ta h hφ hφ2 => ?_)
    exact nc_iret C hr dX10_addTaking_81 hφ hφ2 h
end
