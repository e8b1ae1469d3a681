section
variable {g : EG} {p : Program} {l : Launch} {e : Env} {s : State} {m : MethodId} {args : Array Value} {below : List Frame} {meth : Method} {c : Code} {A : Nat → Prop} {ad am ta : Nat → Nat} {Rr : va_W} {φ0 : Nat}
theorem dX4_choose_0 : decode cX4_choose 0 = .ok (.iconst 1, 1) := by decide +kernel
theorem dX4_choose_1 : decode cX4_choose 1 = .ok (.istore_n 3, 1) := by decide +kernel
theorem dX4_choose_2 : decode cX4_choose 2 = .ok (.iconst 0, 1) := by decide +kernel
theorem dX4_choose_3 : decode cX4_choose 3 = .ok (.istore 4, 2) := by decide +kernel
theorem dX4_choose_5 : decode cX4_choose 5 = .ok (.iload 4, 2) := by decide +kernel
theorem dX4_choose_7 : decode cX4_choose 7 = .ok (.aload_n 0, 1) := by decide +kernel
theorem dX4_choose_8 : decode cX4_choose 8 = .ok (.getfield 20, 3) := by decide +kernel
theorem dX4_choose_11 : decode cX4_choose 11 = .ok (.invokevirtual 65, 3) := by decide +kernel
theorem dX4_choose_14 : decode cX4_choose 14 = .ok (.if_icmp .ge 13, 3) := by decide +kernel
theorem dX4_choose_17 : decode cX4_choose 17 = .ok (.iload_n 3, 1) := by decide +kernel
theorem dX4_choose_18 : decode cX4_choose 18 = .ok (.iconst 3, 1) := by decide +kernel
theorem dX4_choose_19 : decode cX4_choose 19 = .ok (.imul, 1) := by decide +kernel
theorem dX4_choose_20 : decode cX4_choose 20 = .ok (.istore_n 3, 1) := by decide +kernel
theorem dX4_choose_21 : decode cX4_choose 21 = .ok (.iinc 4 1, 3) := by decide +kernel
theorem dX4_choose_24 : decode cX4_choose 24 = .ok (.goto (-19), 3) := by decide +kernel
theorem dX4_choose_27 : decode cX4_choose 27 = .ok (.aload_n 0, 1) := by decide +kernel
theorem dX4_choose_28 : decode cX4_choose 28 = .ok (.iconst (-1), 1) := by decide +kernel
theorem dX4_choose_29 : decode cX4_choose 29 = .ok (.putfield 92, 3) := by decide +kernel
theorem dX4_choose_32 : decode cX4_choose 32 = .ok (.iconst 0, 1) := by decide +kernel
theorem dX4_choose_33 : decode cX4_choose 33 = .ok (.istore 4, 2) := by decide +kernel
theorem dX4_choose_35 : decode cX4_choose 35 = .ok (.iload 4, 2) := by decide +kernel
theorem dX4_choose_37 : decode cX4_choose 37 = .ok (.iload_n 3, 1) := by decide +kernel
theorem dX4_choose_38 : decode cX4_choose 38 = .ok (.if_icmp .ge 110, 3) := by decide +kernel
theorem dX4_choose_41 : decode cX4_choose 41 = .ok (.aload_n 0, 1) := by decide +kernel
theorem dX4_choose_42 : decode cX4_choose 42 = .ok (.iload 4, 2) := by decide +kernel
theorem dX4_choose_44 : decode cX4_choose 44 = .ok (.invokevirtual 96, 3) := by decide +kernel
theorem dX4_choose_47 : decode cX4_choose 47 = .ok (.istore 5, 2) := by decide +kernel
theorem dX4_choose_49 : decode cX4_choose 49 = .ok (.iload 5, 2) := by decide +kernel
theorem dX4_choose_51 : decode cX4_choose 51 = .ok (.aload_n 0, 1) := by decide +kernel
theorem dX4_choose_52 : decode cX4_choose 52 = .ok (.getfield 92, 3) := by decide +kernel
theorem dX4_choose_55 : decode cX4_choose 55 = .ok (.if_icmp .le 87, 3) := by decide +kernel
theorem dX4_choose_58 : decode cX4_choose 58 = .ok (.aload_n 0, 1) := by decide +kernel
theorem dX4_choose_59 : decode cX4_choose 59 = .ok (.iload 5, 2) := by decide +kernel
theorem dX4_choose_61 : decode cX4_choose 61 = .ok (.putfield 92, 3) := by decide +kernel
theorem dX4_choose_64 : decode cX4_choose 64 = .ok (.iconst 0, 1) := by decide +kernel
theorem dX4_choose_65 : decode cX4_choose 65 = .ok (.istore 6, 2) := by decide +kernel
theorem dX4_choose_67 : decode cX4_choose 67 = .ok (.iload 6, 2) := by decide +kernel
theorem dX4_choose_69 : decode cX4_choose 69 = .ok (.aload_n 0, 1) := by decide +kernel
theorem dX4_choose_70 : decode cX4_choose 70 = .ok (.getfield 20, 3) := by decide +kernel
theorem dX4_choose_73 : decode cX4_choose 73 = .ok (.invokevirtual 65, 3) := by decide +kernel
theorem dX4_choose_76 : decode cX4_choose 76 = .ok (.if_icmp .ge 66, 3) := by decide +kernel
theorem dX4_choose_79 : decode cX4_choose 79 = .ok (.iload 6, 2) := by decide +kernel
theorem dX4_choose_81 : decode cX4_choose 81 = .ok (.aload_n 0, 1) := by decide +kernel
theorem dX4_choose_82 : decode cX4_choose 82 = .ok (.getfield 34, 3) := by decide +kernel
theorem dX4_choose_85 : decode cX4_choose 85 = .ok (.arraylength, 1) := by decide +kernel
theorem dX4_choose_86 : decode cX4_choose 86 = .ok (.if_icmp .ge 56, 3) := by decide +kernel
theorem dX4_choose_89 : decode cX4_choose 89 = .ok (.iload 6, 2) := by decide +kernel
theorem dX4_choose_91 : decode cX4_choose 91 = .ok (.aload_n 0, 1) := by decide +kernel
theorem dX4_choose_92 : decode cX4_choose 92 = .ok (.getfield 37, 3) := by decide +kernel
theorem dX4_choose_95 : decode cX4_choose 95 = .ok (.arraylength, 1) := by decide +kernel
theorem dX4_choose_96 : decode cX4_choose 96 = .ok (.if_icmp .ge 46, 3) := by decide +kernel
theorem dX4_choose_99 : decode cX4_choose 99 = .ok (.aload_n 0, 1) := by decide +kernel
theorem dX4_choose_100 : decode cX4_choose 100 = .ok (.getfield 34, 3) := by decide +kernel
theorem dX4_choose_103 : decode cX4_choose 103 = .ok (.iload 6, 2) := by decide +kernel
theorem dX4_choose_105 : decode cX4_choose 105 = .ok (.aload_n 0, 1) := by decide +kernel
theorem dX4_choose_106 : decode cX4_choose 106 = .ok (.getfield 37, 3) := by decide +kernel
theorem dX4_choose_109 : decode cX4_choose 109 = .ok (.iload 6, 2) := by decide +kernel
theorem dX4_choose_111 : decode cX4_choose 111 = .ok (.iaload, 1) := by decide +kernel
theorem dX4_choose_112 : decode cX4_choose 112 = .ok (.ifCond .ne 7, 3) := by decide +kernel
theorem dX4_choose_115 : decode cX4_choose 115 = .ok (.iload_n 1, 1) := by decide +kernel
theorem dX4_choose_116 : decode cX4_choose 116 = .ok (.goto 19, 3) := by decide +kernel
theorem dX4_choose_119 : decode cX4_choose 119 = .ok (.aload_n 0, 1) := by decide +kernel
theorem dX4_choose_120 : decode cX4_choose 120 = .ok (.getfield 37, 3) := by decide +kernel
theorem dX4_choose_123 : decode cX4_choose 123 = .ok (.iload 6, 2) := by decide +kernel
theorem dX4_choose_125 : decode cX4_choose 125 = .ok (.iaload, 1) := by decide +kernel
theorem dX4_choose_126 : decode cX4_choose 126 = .ok (.iconst 1, 1) := by decide +kernel
theorem dX4_choose_127 : decode cX4_choose 127 = .ok (.if_icmp .ne 7, 3) := by decide +kernel
theorem dX4_choose_130 : decode cX4_choose 130 = .ok (.iload_n 2, 1) := by decide +kernel
theorem dX4_choose_131 : decode cX4_choose 131 = .ok (.goto 4, 3) := by decide +kernel
theorem dX4_choose_134 : decode cX4_choose 134 = .ok (.iconst (-1), 1) := by decide +kernel
theorem dX4_choose_135 : decode cX4_choose 135 = .ok (.iastore, 1) := by decide +kernel
theorem dX4_choose_136 : decode cX4_choose 136 = .ok (.iinc 6 1, 3) := by decide +kernel
theorem dX4_choose_139 : decode cX4_choose 139 = .ok (.goto (-72), 3) := by decide +kernel
theorem dX4_choose_142 : decode cX4_choose 142 = .ok (.iinc 4 1, 3) := by decide +kernel
theorem dX4_choose_145 : decode cX4_choose 145 = .ok (.goto (-110), 3) := by decide +kernel
theorem dX4_choose_148 : decode cX4_choose 148 = .ok (.return_, 1) := by decide +kernel
def L_Patrols_choose_5 (k27 : Int32 → Int32 → Int32 → CS → Option (Int32 × CS)) (x1 : Int32) (x2 : Int32) : Nat → Int32 → Int32 → CS → Option (Int32 × CS)
  | 0, _, _, _ => none
  | n + 1, x3, x4, σ => bnd (f_Table_size 13 σ) (fun r11 σ11 => if r11 ≤ x4 then k27 x1 x2 x3 σ11 else (L_Patrols_choose_5 k27 x1 x2 n) (x3 * 3) (x4 + 1) σ11)
set_option maxHeartbeats 4000000 in
set_option maxRecDepth 100000 in
theorem w_Patrols_choose_5 (C : Cx g p s m args meth c A 7 cX4_choose yX4_choose.cls) (hr : meth.sig.returnType = none)  {res : Int32 × CS}  (x1 : Int32) (x2 : Int32) {k27 : Int32 → Int32 → Int32 → CS → Option (Int32 × CS)} (hk27 : ∀ (x1 : Int32) (x2 : Int32) (x3 : Int32) (σ : CS) (ta : Nat → Nat), φ0 ≤ ph σ.2.2 → ph σ.2.2 ≤ BB → k27 x1 x2 x3 σ = some res → NV g p l e s m args below meth c A 2 66 7 ad Rr φ0 res ta σ [(0, .ref (ad 9)), (1, .int x1), (2, .int x2), (3, .int x3)] 27 []) : ∀ (n : Nat) (x3 : Int32) (x4 : Int32) (σ : CS) (ta : Nat → Nat), φ0 ≤ ph σ.2.2 → ph σ.2.2 ≤ BB → L_Patrols_choose_5 k27 x1 x2 n x3 x4 σ = some res → NV g p l e s m args below meth c A 2 66 7 ad Rr φ0 res ta σ [(0, .ref (ad 9)), (1, .int x1), (2, .int x2), (3, .int x3), (4, .int x4)] 5 [] := by
  intro n
  induction n with
  | zero =>
    intro x3 x4 σ ta hφ hφ2 h
    exact absurd (show (none : Option (Int32 × CS)) = some res from h) (by intro h9; cases h9)
  | succ n ih =>
    intro x3 x4 σ ta hφ hφ2 h
    rw [L_Patrols_choose_5] at h
    refine nw_iload C dX4_choose_5 4 rfl ?_
    refine nw_aload_n C dX4_choose_7 rfl 0 rfl ?_
    refine nw_get (v := .ref (ad 24)) C in_X4 9 cl_Patrols rfl 1 (by decide) tw_463 rfl rfl dX4_choose_8 ?_
    refine nc_callVI (q0 := 24) (As := []) (rest := [.int x4]) C h (fun _ _ e => c_Table_size 13 (by decide) e hφ2) tw_628 kv_X9_size (cl_T 13 (by decide)) rfl ⟨Nat.le_of_ble_eq_true rfl, Nat.le_of_ble_eq_true rfl⟩ rfl dX4_choose_11 rfl (Nat.le_of_ble_eq_true rfl) hφ hφ2 (fun r11 σ11 ta h hφ hφ2 => ?_)
    refine nw_icmp_ge (tgt := 27) C dX4_choose_14 (by decide) h (fun _ h => ?_) (fun _ h => ?_)
    · exact nw_lv (lv' := [(0, .ref (ad 9)), (1, .int x1), (2, .int x2), (3, .int x3)]) [0, 1, 2, 3] rfl (hk27 x1 x2 x3 _ _ hφ hφ2 h)
    · refine nw_iload_n C dX4_choose_17 rfl 3 rfl ?_
      refine nw_iconst (v := 3) C dX4_choose_18 (by decide) ?_
      refine nw_imul C dX4_choose_19 ?_
      refine nw_istore_n (lv' := [(3, .int (x3 * 3)), (0, .ref (ad 9)), (1, .int x1), (2, .int x2), (4, .int x4)]) C dX4_choose_20 rfl (by decide) rfl ?_
      refine nw_iinc (lv' := [(4, .int (x4 + 1)), (3, .int (x3 * 3)), (0, .ref (ad 9)), (1, .int x1), (2, .int x2)]) C (x4 + 1) dX4_choose_21 4 rfl rfl (by decide) rfl ?_
      refine nw_goto (tgt := 5) C dX4_choose_24 (by decide) ?_
      exact nw_lv (lv' := [(0, .ref (ad 9)), (1, .int x1), (2, .int x2), (3, .int (x3 * 3)), (4, .int (x4 + 1))]) [2, 3, 4, 1, 0] rfl (ih (x3 * 3) (x4 + 1) _ _ hφ hφ2 h)
def B_Patrols_choose_135 (k67 : Int32 → CS → Option (Int32 × CS)) (x1 : Int32) (x2 : Int32) (x3 : Int32) (x4 : Int32) (x6 : Int32) (z1 : Int32) (z2 : Int32) (σ : CS) : Option (Int32 × CS) := gix z1 8 (k67 (x6 + 1) (wr σ 30 z1 z2))
set_option maxHeartbeats 4000000 in
set_option maxRecDepth 100000 in
theorem w_Patrols_choose_135 (C : Cx g p s m args meth c A 7 cX4_choose yX4_choose.cls) (hr : meth.sig.returnType = none)  {res : Int32 × CS}  (x1 : Int32) (x2 : Int32) (x3 : Int32) (x4 : Int32) (x6 : Int32) (z1 : Int32) (z2 : Int32) {k67 : Int32 → CS → Option (Int32 × CS)} (hk67 : ∀ (x6 : Int32) (σ : CS) (ta : Nat → Nat), φ0 ≤ ph σ.2.2 → ph σ.2.2 ≤ BB → k67 x6 σ = some res → NV g p l e s m args below meth c A 2 66 7 ad Rr φ0 res ta σ [(0, .ref (ad 9)), (1, .int x1), (2, .int x2), (3, .int x3), (4, .int x4), (6, .int x6)] 67 []) (σ : CS) (ta : Nat → Nat) (hφ : φ0 ≤ ph σ.2.2) (hφ2 : ph σ.2.2 ≤ BB) (h : B_Patrols_choose_135 k67 x1 x2 x3 x4 x6 z1 z2 σ = some res) : NV g p l e s m args below meth c A 2 66 7 ad Rr φ0 res ta σ [(0, .ref (ad 9)), (1, .int x1), (2, .int x2), (3, .int x3), (4, .int x4), (6, .int x6)] 135 [.int z2, .int z1, .ref (ad 57)] := by
  unfold B_Patrols_choose_135 at h
  refine nw_iast C 57 (cl_I 30 rfl) dX4_choose_135 h (cs_I 30 rfl) (fun h => ?_)
  refine nw_iinc (lv' := [(6, .int (x6 + 1)), (0, .ref (ad 9)), (1, .int x1), (2, .int x2), (3, .int x3), (4, .int x4)]) C (x6 + 1) dX4_choose_136 5 rfl rfl (by decide) rfl ?_
  refine nw_goto (tgt := 67) C dX4_choose_139 (by decide) ?_
  exact nw_lv (lv' := [(0, .ref (ad 9)), (1, .int x1), (2, .int x2), (3, .int x3), (4, .int x4), (6, .int (x6 + 1))]) [1, 2, 3, 4, 5, 0] rfl (hk67 (x6 + 1) _ _ hφ hφ2 h)
def L_Patrols_choose_67 (k35 : Int32 → CS → Option (Int32 × CS)) (x1 : Int32) (x2 : Int32) (x3 : Int32) (x4 : Int32) : Nat → Int32 → CS → Option (Int32 × CS)
  | 0, _, _ => none
  | n + 1, x6, σ => bnd (f_Table_size 13 σ) (fun r73 σ73 => if r73 ≤ x6 then k35 (x4 + 1) σ73 else if 8 ≤ x6 then k35 (x4 + 1) σ73 else if 8 ≤ x6 then k35 (x4 + 1) σ73 else gix x6 8 (if (rd σ73 31 x6) = 0 then B_Patrols_choose_135 (L_Patrols_choose_67 k35 x1 x2 x3 x4 n) x1 x2 x3 x4 x6 x6 x1 σ73 else gix x6 8 (if (rd σ73 31 x6) = 1 then B_Patrols_choose_135 (L_Patrols_choose_67 k35 x1 x2 x3 x4 n) x1 x2 x3 x4 x6 x6 x2 σ73 else B_Patrols_choose_135 (L_Patrols_choose_67 k35 x1 x2 x3 x4 n) x1 x2 x3 x4 x6 x6 (-1) σ73)))
set_option maxHeartbeats 4000000 in
set_option maxRecDepth 100000 in
theorem w_Patrols_choose_67 (C : Cx g p s m args meth c A 7 cX4_choose yX4_choose.cls) (hr : meth.sig.returnType = none)  {res : Int32 × CS}  (x1 : Int32) (x2 : Int32) (x3 : Int32) (x4 : Int32) {k35 : Int32 → CS → Option (Int32 × CS)} (hk35 : ∀ (x4 : Int32) (σ : CS) (ta : Nat → Nat), φ0 ≤ ph σ.2.2 → ph σ.2.2 ≤ BB → k35 x4 σ = some res → NV g p l e s m args below meth c A 2 66 7 ad Rr φ0 res ta σ [(0, .ref (ad 9)), (1, .int x1), (2, .int x2), (3, .int x3), (4, .int x4)] 35 []) : ∀ (n : Nat) (x6 : Int32) (σ : CS) (ta : Nat → Nat), φ0 ≤ ph σ.2.2 → ph σ.2.2 ≤ BB → L_Patrols_choose_67 k35 x1 x2 x3 x4 n x6 σ = some res → NV g p l e s m args below meth c A 2 66 7 ad Rr φ0 res ta σ [(0, .ref (ad 9)), (1, .int x1), (2, .int x2), (3, .int x3), (4, .int x4), (6, .int x6)] 67 [] := by
  intro n
  induction n with
  | zero =>
    intro x6 σ ta hφ hφ2 h
    exact absurd (show (none : Option (Int32 × CS)) = some res from h) (by intro h9; cases h9)
  | succ n ih =>
    intro x6 σ ta hφ hφ2 h
    rw [L_Patrols_choose_67] at h
    refine nw_iload C dX4_choose_67 5 rfl ?_
    refine nw_aload_n C dX4_choose_69 rfl 0 rfl ?_
    refine nw_get (v := .ref (ad 24)) C in_X4 9 cl_Patrols rfl 1 (by decide) tw_463 rfl rfl dX4_choose_70 ?_
    refine nc_callVI (q0 := 24) (As := []) (rest := [.int x6]) C h (fun _ _ e => c_Table_size 13 (by decide) e hφ2) tw_628 kv_X9_size (cl_T 13 (by decide)) rfl ⟨Nat.le_of_ble_eq_true rfl, Nat.le_of_ble_eq_true rfl⟩ rfl dX4_choose_73 rfl (Nat.le_of_ble_eq_true rfl) hφ hφ2 (fun r73 σ73 ta h hφ hφ2 => ?_)
    refine nw_icmp_ge (tgt := 142) C dX4_choose_76 (by decide) h (fun _ h => ?_) (fun _ h => ?_)
    · refine nw_iinc (lv' := [(4, .int (x4 + 1)), (0, .ref (ad 9)), (1, .int x1), (2, .int x2), (3, .int x3), (6, .int x6)]) C (x4 + 1) dX4_choose_142 4 rfl rfl (by decide) rfl ?_
      refine nw_goto (tgt := 35) C dX4_choose_145 (by decide) ?_
      exact nw_lv (lv' := [(0, .ref (ad 9)), (1, .int x1), (2, .int x2), (3, .int x3), (4, .int (x4 + 1))]) [1, 2, 3, 4, 0] rfl (hk35 (x4 + 1) _ _ hφ hφ2 h)
    · refine nw_iload C dX4_choose_79 5 rfl ?_
      refine nw_aload_n C dX4_choose_81 rfl 0 rfl ?_
      refine nw_get (v := .ref (ad 57)) C in_X4 9 cl_Patrols rfl 5 (by decide) tw_468 rfl rfl dX4_choose_82 ?_
      refine nw_alenI C 57 (cl_I 30 rfl) dX4_choose_85 ?_
      refine nw_st (st' := [.int 8, .int x6]) rfl ?_
      refine nw_icmp_ge (tgt := 142) C dX4_choose_86 (by decide) h (fun _ h => ?_) (fun _ h => ?_)
      · refine nw_iinc (lv' := [(4, .int (x4 + 1)), (0, .ref (ad 9)), (1, .int x1), (2, .int x2), (3, .int x3), (6, .int x6)]) C (x4 + 1) dX4_choose_142 4 rfl rfl (by decide) rfl ?_
        refine nw_goto (tgt := 35) C dX4_choose_145 (by decide) ?_
        exact nw_lv (lv' := [(0, .ref (ad 9)), (1, .int x1), (2, .int x2), (3, .int x3), (4, .int (x4 + 1))]) [1, 2, 3, 4, 0] rfl (hk35 (x4 + 1) _ _ hφ hφ2 h)
      · refine nw_iload C dX4_choose_89 5 rfl ?_
        refine nw_aload_n C dX4_choose_91 rfl 0 rfl ?_
        refine nw_get (v := .ref (ad 58)) C in_X4 9 cl_Patrols rfl 6 (by decide) tw_469 rfl rfl dX4_choose_92 ?_
        refine nw_alenI C 58 (cl_I 31 rfl) dX4_choose_95 ?_
        refine nw_st (st' := [.int 8, .int x6]) rfl ?_
        refine nw_icmp_ge (tgt := 142) C dX4_choose_96 (by decide) h (fun _ h => ?_) (fun _ h => ?_)
        · refine nw_iinc (lv' := [(4, .int (x4 + 1)), (0, .ref (ad 9)), (1, .int x1), (2, .int x2), (3, .int x3), (6, .int x6)]) C (x4 + 1) dX4_choose_142 4 rfl rfl (by decide) rfl ?_
          refine nw_goto (tgt := 35) C dX4_choose_145 (by decide) ?_
          exact nw_lv (lv' := [(0, .ref (ad 9)), (1, .int x1), (2, .int x2), (3, .int x3), (4, .int (x4 + 1))]) [1, 2, 3, 4, 0] rfl (hk35 (x4 + 1) _ _ hφ hφ2 h)
        · refine nw_aload_n C dX4_choose_99 rfl 0 rfl ?_
          refine nw_get (v := .ref (ad 57)) C in_X4 9 cl_Patrols rfl 5 (by decide) tw_468 rfl rfl dX4_choose_100 ?_
          refine nw_iload C dX4_choose_103 5 rfl ?_
          refine nw_aload_n C dX4_choose_105 rfl 0 rfl ?_
          refine nw_get (v := .ref (ad 58)) C in_X4 9 cl_Patrols rfl 6 (by decide) tw_469 rfl rfl dX4_choose_106 ?_
          refine nw_iload C dX4_choose_109 5 rfl ?_
          refine nw_iald C 58 (cl_I 31 rfl) dX4_choose_111 h (fun h => ?_)
          refine nw_if_ne (tgt := 119) C dX4_choose_112 (by decide) h (fun _ h => ?_) (fun _ h => ?_)
          · refine nw_iload_n C dX4_choose_115 rfl 1 rfl ?_
            refine nw_goto (tgt := 135) C dX4_choose_116 (by decide) ?_
            exact nw_lv (lv' := [(0, .ref (ad 9)), (1, .int x1), (2, .int x2), (3, .int x3), (4, .int x4), (6, .int x6)]) [0, 1, 2, 3, 4, 5] rfl (w_Patrols_choose_135 C hr x1 x2 x3 x4 x6 x6 x1 ih _ _ hφ hφ2 h)
          · refine nw_aload_n C dX4_choose_119 rfl 0 rfl ?_
            refine nw_get (v := .ref (ad 58)) C in_X4 9 cl_Patrols rfl 6 (by decide) tw_469 rfl rfl dX4_choose_120 ?_
            refine nw_iload C dX4_choose_123 5 rfl ?_
            refine nw_iald C 58 (cl_I 31 rfl) dX4_choose_125 h (fun h => ?_)
            refine nw_iconst (v := 1) C dX4_choose_126 (by decide) ?_
            refine nw_icmp_ne (tgt := 134) C dX4_choose_127 (by decide) h (fun _ h => ?_) (fun _ h => ?_)
            · refine nw_iload_n C dX4_choose_130 rfl 2 rfl ?_
              refine nw_goto (tgt := 135) C dX4_choose_131 (by decide) ?_
              exact nw_lv (lv' := [(0, .ref (ad 9)), (1, .int x1), (2, .int x2), (3, .int x3), (4, .int x4), (6, .int x6)]) [0, 1, 2, 3, 4, 5] rfl (w_Patrols_choose_135 C hr x1 x2 x3 x4 x6 x6 x2 ih _ _ hφ hφ2 h)
            · refine nw_iconst (v := (-1)) C dX4_choose_134 (by decide) ?_
              exact nw_lv (lv' := [(0, .ref (ad 9)), (1, .int x1), (2, .int x2), (3, .int x3), (4, .int x4), (6, .int x6)]) [0, 1, 2, 3, 4, 5] rfl (w_Patrols_choose_135 C hr x1 x2 x3 x4 x6 x6 (-1) ih _ _ hφ hφ2 h)
def L_Patrols_choose_35  (x1 : Int32) (x2 : Int32) (x3 : Int32) : Nat → Int32 → CS → Option (Int32 × CS)
  | 0, _, _ => none
  | n + 1, x4, σ => if x3 ≤ x4 then some (0, σ) else bnd (f_Patrols_tryWay x4 σ) (fun r44 σ44 => if r44 ≤ (σ44.1 67) then (L_Patrols_choose_35 x1 x2 x3 n) (x4 + 1) σ44 else L_Patrols_choose_67 (L_Patrols_choose_35 x1 x2 x3 n) x1 x2 x3 x4 FU 0 (sF σ44 67 r44))
set_option maxHeartbeats 4000000 in
set_option maxRecDepth 100000 in
theorem w_Patrols_choose_35 (C : Cx g p s m args meth c A 7 cX4_choose yX4_choose.cls) (hr : meth.sig.returnType = none)  {res : Int32 × CS}  (x1 : Int32) (x2 : Int32) (x3 : Int32)  : ∀ (n : Nat) (x4 : Int32) (σ : CS) (ta : Nat → Nat), φ0 ≤ ph σ.2.2 → ph σ.2.2 ≤ BB → L_Patrols_choose_35 x1 x2 x3 n x4 σ = some res → NV g p l e s m args below meth c A 2 66 7 ad Rr φ0 res ta σ [(0, .ref (ad 9)), (1, .int x1), (2, .int x2), (3, .int x3), (4, .int x4)] 35 [] := by
  intro n
  induction n with
  | zero =>
    intro x4 σ ta hφ hφ2 h
    exact absurd (show (none : Option (Int32 × CS)) = some res from h) (by intro h9; cases h9)
  | succ n ih =>
    intro x4 σ ta hφ hφ2 h
    rw [L_Patrols_choose_35] at h
    refine nw_iload C dX4_choose_35 4 rfl ?_
    refine nw_iload_n C dX4_choose_37 rfl 3 rfl ?_
    refine nw_icmp_ge (tgt := 148) C dX4_choose_38 (by decide) h (fun _ h => ?_) (fun _ h => ?_)
    · exact nc_vret C hr dX4_choose_148 hφ hφ2 h
    · refine nw_aload_n C dX4_choose_41 rfl 0 rfl ?_
      refine nw_iload C dX4_choose_42 4 rfl ?_
      refine nc_callVI (q0 := 9) (As := [.int x4]) (rest := []) C h (fun _ _ e => c_Patrols_tryWay e hφ2) tw_658 kv_X4_tryWay cl_Patrols rfl ⟨Nat.le_of_ble_eq_true rfl, Nat.le_of_ble_eq_true rfl⟩ rfl dX4_choose_44 rfl (Nat.le_of_ble_eq_true rfl) hφ hφ2 (fun r44 σ44 ta h hφ hφ2 => ?_)
      refine nw_istore (lv' := [(5, .int r44), (0, .ref (ad 9)), (1, .int x1), (2, .int x2), (3, .int x3), (4, .int x4)]) C dX4_choose_47 (by decide) rfl ?_
      refine nw_iload C dX4_choose_49 0 rfl ?_
      refine nw_aload_n C dX4_choose_51 rfl 1 rfl ?_
      refine nw_get (v := .int (σ44.1 67)) C in_X4 9 cl_Patrols rfl 7 (by decide) tw_470 rfl rfl dX4_choose_52 ?_
      refine nw_icmp_le (tgt := 142) C dX4_choose_55 (by decide) h (fun _ h => ?_) (fun _ h => ?_)
      · refine nw_iinc (lv' := [(4, .int (x4 + 1)), (5, .int r44), (0, .ref (ad 9)), (1, .int x1), (2, .int x2), (3, .int x3)]) C (x4 + 1) dX4_choose_142 5 rfl rfl (by decide) rfl ?_
        refine nw_goto (tgt := 35) C dX4_choose_145 (by decide) ?_
        exact nw_lv (lv' := [(0, .ref (ad 9)), (1, .int x1), (2, .int x2), (3, .int x3), (4, .int (x4 + 1))]) [2, 3, 4, 5, 0] rfl (ih (x4 + 1) _ _ hφ hφ2 h)
      · refine nw_aload_n C dX4_choose_58 rfl 1 rfl ?_
        refine nw_iload C dX4_choose_59 0 rfl ?_
        refine nw_put (ty := .int) C in_X4 9 cl_Patrols rfl 7 (by decide) tyX4 tyX4_ok nmX4 tw_470 rfl rfl (by decide +kernel) rfl rfl (Nat.le_of_ble_eq_true rfl) dX4_choose_61 cs_Patrols_worth ?_
        refine nw_iconst (v := 0) C dX4_choose_64 (by decide) ?_
        refine nw_istore (lv' := [(6, .int 0), (5, .int r44), (0, .ref (ad 9)), (1, .int x1), (2, .int x2), (3, .int x3), (4, .int x4)]) C dX4_choose_65 (by decide) rfl ?_
        exact nw_lv (lv' := [(0, .ref (ad 9)), (1, .int x1), (2, .int x2), (3, .int x3), (4, .int x4), (6, .int 0)]) [2, 3, 4, 5, 6, 0] rfl (w_Patrols_choose_67 C hr x1 x2 x3 x4 ih FU 0 _ _ hφ hφ2 h)
def B_Patrols_choose_27   (x1 : Int32) (x2 : Int32) (x3 : Int32) (σ : CS) : Option (Int32 × CS) := L_Patrols_choose_35 x1 x2 x3 FU 0 (sF σ 67 (-1))
set_option maxHeartbeats 4000000 in
set_option maxRecDepth 100000 in
theorem w_Patrols_choose_27 (C : Cx g p s m args meth c A 7 cX4_choose yX4_choose.cls) (hr : meth.sig.returnType = none)  {res : Int32 × CS}   (x1 : Int32) (x2 : Int32) (x3 : Int32)  (σ : CS) (ta : Nat → Nat) (hφ : φ0 ≤ ph σ.2.2) (hφ2 : ph σ.2.2 ≤ BB) (h : B_Patrols_choose_27 x1 x2 x3 σ = some res) : NV g p l e s m args below meth c A 2 66 7 ad Rr φ0 res ta σ [(0, .ref (ad 9)), (1, .int x1), (2, .int x2), (3, .int x3)] 27 [] := by
  unfold B_Patrols_choose_27 at h
  refine nw_aload_n C dX4_choose_27 rfl 0 rfl ?_
  refine nw_iconst (v := (-1)) C dX4_choose_28 (by decide) ?_
  refine nw_put (ty := .int) C in_X4 9 cl_Patrols rfl 7 (by decide) tyX4 tyX4_ok nmX4 tw_470 rfl rfl (by decide +kernel) rfl rfl (Nat.le_of_ble_eq_true rfl) dX4_choose_29 cs_Patrols_worth ?_
  refine nw_iconst (v := 0) C dX4_choose_32 (by decide) ?_
  refine nw_istore (lv' := [(4, .int 0), (0, .ref (ad 9)), (1, .int x1), (2, .int x2), (3, .int x3)]) C dX4_choose_33 (by decide) rfl ?_
  exact nw_lv (lv' := [(0, .ref (ad 9)), (1, .int x1), (2, .int x2), (3, .int x3), (4, .int 0)]) [1, 2, 3, 4, 0] rfl (w_Patrols_choose_35 C hr x1 x2 x3 FU 0 _ _ hφ hφ2 h)
def f_Patrols_choose (p0 : Int32) (p1 : Int32) (σ : CS) : Option (Int32 × CS) := L_Patrols_choose_5 (B_Patrols_choose_27) p0 p1 FU 1 0 σ
set_option maxHeartbeats 4000000 in
set_option maxRecDepth 100000 in
theorem c_Patrols_choose {l : Launch} {g : EG} {ad ta : Nat → Nat} {Rr : va_W} {σ σ' : CS} {r : Int32} {p0 : Int32} {p1 : Int32}  (h : f_Patrols_choose p0 p1 σ = some (r, σ')) (hφ2 : ph σ.2.2 ≤ BB) : CtV l g yX4_choose (.code yX4_choose cX4_choose 7 none) 2 66 ad ta Rr σ [.ref (ad 9), .int p0, .int p1] r σ' := by
  refine Ct.of rfl (by decide) (Nat.le_of_ble_eq_true rfl) ?_
  intro p e s m args below meth c A C hr
  have hφ : ph σ.2.2 ≤ ph σ.2.2 := Nat.le_refl _
  refine nw_zero (ph σ.2.2) ?_
  show NV g p l e s m args below meth c A 2 66 7 ad Rr (ph σ.2.2) (r, σ') ta σ [(0, .ref (ad 9)), (1, .int p0), (2, .int p1)] 0 []
  unfold f_Patrols_choose at h
  refine nw_iconst (v := 1) C dX4_choose_0 (by decide) ?_
  refine nw_istore_n (lv' := [(3, .int 1), (0, .ref (ad 9)), (1, .int p0), (2, .int p1)]) C dX4_choose_1 rfl (by decide) rfl ?_
  refine nw_iconst (v := 0) C dX4_choose_2 (by decide) ?_
  refine nw_istore (lv' := [(4, .int 0), (3, .int 1), (0, .ref (ad 9)), (1, .int p0), (2, .int p1)]) C dX4_choose_3 (by decide) rfl ?_
  exact nw_lv (lv' := [(0, .ref (ad 9)), (1, .int p0), (2, .int p1), (3, .int 1), (4, .int 0)]) [2, 3, 4, 1, 0] rfl (w_Patrols_choose_5 C hr p0 p1 (fun x1_ x2_ x3_ σ_ ta_ hφ_ hφ2_ h_ => w_Patrols_choose_27 C hr x1_ x2_ x3_ σ_ ta_ hφ_ hφ2_ h_) FU 1 0 _ _ hφ hφ2 h)
theorem dX4_plan_0 : decode cX4_plan 0 = .ok (.aload_n 0, 1) := by decide +kernel
theorem dX4_plan_1 : decode cX4_plan 1 = .ok (.getfield 40, 3) := by decide +kernel
theorem dX4_plan_4 : decode cX4_plan 4 = .ok (.ifCond .ne 4, 3) := by decide +kernel
theorem dX4_plan_7 : decode cX4_plan 7 = .ok (.return_, 1) := by decide +kernel
theorem dX4_plan_8 : decode cX4_plan 8 = .ok (.aload_n 0, 1) := by decide +kernel
theorem dX4_plan_9 : decode cX4_plan 9 = .ok (.iconst 0, 1) := by decide +kernel
theorem dX4_plan_10 : decode cX4_plan 10 = .ok (.putfield 40, 3) := by decide +kernel
theorem dX4_plan_13 : decode cX4_plan 13 = .ok (.aload_n 0, 1) := by decide +kernel
theorem dX4_plan_14 : decode cX4_plan 14 = .ok (.iconst 0, 1) := by decide +kernel
theorem dX4_plan_15 : decode cX4_plan 15 = .ok (.invokevirtual 54, 3) := by decide +kernel
theorem dX4_plan_18 : decode cX4_plan 18 = .ok (.istore_n 1, 1) := by decide +kernel
theorem dX4_plan_19 : decode cX4_plan 19 = .ok (.iload_n 1, 1) := by decide +kernel
theorem dX4_plan_20 : decode cX4_plan 20 = .ok (.iconst (-1), 1) := by decide +kernel
theorem dX4_plan_21 : decode cX4_plan 21 = .ok (.if_icmp .ne 7, 3) := by decide +kernel
theorem dX4_plan_24 : decode cX4_plan 24 = .ok (.iconst (-1), 1) := by decide +kernel
theorem dX4_plan_25 : decode cX4_plan 25 = .ok (.goto 10, 3) := by decide +kernel
theorem dX4_plan_28 : decode cX4_plan 28 = .ok (.aload_n 0, 1) := by decide +kernel
theorem dX4_plan_29 : decode cX4_plan 29 = .ok (.iload_n 1, 1) := by decide +kernel
theorem dX4_plan_30 : decode cX4_plan 30 = .ok (.iconst 1, 1) := by decide +kernel
theorem dX4_plan_31 : decode cX4_plan 31 = .ok (.iadd, 1) := by decide +kernel
theorem dX4_plan_32 : decode cX4_plan 32 = .ok (.invokevirtual 54, 3) := by decide +kernel
theorem dX4_plan_35 : decode cX4_plan 35 = .ok (.istore_n 2, 1) := by decide +kernel
theorem dX4_plan_36 : decode cX4_plan 36 = .ok (.aload_n 0, 1) := by decide +kernel
theorem dX4_plan_37 : decode cX4_plan 37 = .ok (.iload_n 1, 1) := by decide +kernel
theorem dX4_plan_38 : decode cX4_plan 38 = .ok (.aload_n 0, 1) := by decide +kernel
theorem dX4_plan_39 : decode cX4_plan 39 = .ok (.getfield 27, 3) := by decide +kernel
theorem dX4_plan_42 : decode cX4_plan 42 = .ok (.invokevirtual 58, 3) := by decide +kernel
theorem dX4_plan_45 : decode cX4_plan 45 = .ok (.aload_n 0, 1) := by decide +kernel
theorem dX4_plan_46 : decode cX4_plan 46 = .ok (.iload_n 2, 1) := by decide +kernel
theorem dX4_plan_47 : decode cX4_plan 47 = .ok (.aload_n 0, 1) := by decide +kernel
theorem dX4_plan_48 : decode cX4_plan 48 = .ok (.getfield 31, 3) := by decide +kernel
theorem dX4_plan_51 : decode cX4_plan 51 = .ok (.invokevirtual 58, 3) := by decide +kernel
theorem dX4_plan_54 : decode cX4_plan 54 = .ok (.aload_n 0, 1) := by decide +kernel
theorem dX4_plan_55 : decode cX4_plan 55 = .ok (.iload_n 1, 1) := by decide +kernel
theorem dX4_plan_56 : decode cX4_plan 56 = .ok (.iload_n 2, 1) := by decide +kernel
theorem dX4_plan_57 : decode cX4_plan 57 = .ok (.invokevirtual 62, 3) := by decide +kernel
theorem dX4_plan_60 : decode cX4_plan 60 = .ok (.return_, 1) := by decide +kernel
def B_Patrols_plan_35   (x1 : Int32) (z0 : Int32) (σ : CS) : Option (Int32 × CS) := bnd (f_Patrols_measure 28 x1 σ) (fun _ σ42 => bnd (f_Patrols_measure 29 z0 σ42) (fun _ σ51 => bnd (f_Patrols_choose x1 z0 σ51) (fun _ σ57 => some (0, σ57))))
set_option maxHeartbeats 4000000 in
set_option maxRecDepth 100000 in
theorem w_Patrols_plan_35 (C : Cx g p s m args meth c A 3 cX4_plan yX4_plan.cls) (hr : meth.sig.returnType = none)  {res : Int32 × CS}   (x1 : Int32) (z0 : Int32)  (σ : CS) (ta : Nat → Nat) (hφ : φ0 ≤ ph σ.2.2) (hφ2 : ph σ.2.2 ≤ BB) (h : B_Patrols_plan_35 x1 z0 σ = some res) : NV g p l e s m args below meth c A 6 162 3 ad Rr φ0 res ta σ [(0, .ref (ad 9)), (1, .int x1)] 35 [.int z0] := by
  unfold B_Patrols_plan_35 at h
  refine nw_istore_n (lv' := [(2, .int z0), (0, .ref (ad 9)), (1, .int x1)]) C dX4_plan_35 rfl (by decide) rfl ?_
  refine nw_aload_n C dX4_plan_36 rfl 1 rfl ?_
  refine nw_iload_n C dX4_plan_37 rfl 2 rfl ?_
  refine nw_aload_n C dX4_plan_38 rfl 1 rfl ?_
  refine nw_get (v := .ref (ad 55)) C in_X4 9 cl_Patrols rfl 3 (by decide) tw_466 rfl rfl dX4_plan_39 ?_
  refine nc_callVV (q0 := 9) (As := [.int x1, .ref (ad 55)]) (rest := []) C h (fun _ _ e => c_Patrols_measure 28 rfl e hφ2) tw_630 kv_X4_measure cl_Patrols rfl ⟨Nat.le_of_ble_eq_true rfl, Nat.le_of_ble_eq_true rfl⟩ rfl dX4_plan_42 rfl (Nat.le_of_ble_eq_true rfl) hφ hφ2 (fun r42 σ42 ta h hφ hφ2 => ?_)
  refine nw_aload_n C dX4_plan_45 rfl 1 rfl ?_
  refine nw_iload_n C dX4_plan_46 rfl 0 rfl ?_
  refine nw_aload_n C dX4_plan_47 rfl 1 rfl ?_
  refine nw_get (v := .ref (ad 56)) C in_X4 9 cl_Patrols rfl 4 (by decide) tw_467 rfl rfl dX4_plan_48 ?_
  refine nc_callVV (q0 := 9) (As := [.int z0, .ref (ad 56)]) (rest := []) C h (fun _ _ e => c_Patrols_measure 29 rfl e hφ2) tw_630 kv_X4_measure cl_Patrols rfl ⟨Nat.le_of_ble_eq_true rfl, Nat.le_of_ble_eq_true rfl⟩ rfl dX4_plan_51 rfl (Nat.le_of_ble_eq_true rfl) hφ hφ2 (fun r51 σ51 ta h hφ hφ2 => ?_)
  refine nw_aload_n C dX4_plan_54 rfl 1 rfl ?_
  refine nw_iload_n C dX4_plan_55 rfl 2 rfl ?_
  refine nw_iload_n C dX4_plan_56 rfl 0 rfl ?_
  refine nc_callVV (q0 := 9) (As := [.int x1, .int z0]) (rest := []) C h (fun _ _ e => c_Patrols_choose e hφ2) tw_654 kv_X4_choose cl_Patrols rfl ⟨Nat.le_of_ble_eq_true rfl, Nat.le_of_ble_eq_true rfl⟩ rfl dX4_plan_57 rfl (Nat.le_of_ble_eq_true rfl) hφ hφ2 (fun r57 σ57 ta h hφ hφ2 => ?_)
  exact nc_vret C hr dX4_plan_60 hφ hφ2 h
def f_Patrols_plan  (σ : CS) : Option (Int32 × CS) := if (σ.1 68) = 0 then some (0, σ) else bnd (f_Patrols_nextWithLodge 0 (sF σ 68 0)) (fun r15 σ15 => if r15 = (-1) then B_Patrols_plan_35 r15 (-1) σ15 else bnd (f_Patrols_nextWithLodge (r15 + 1) σ15) (fun r32 σ32 => B_Patrols_plan_35 r15 r32 σ32))
set_option maxHeartbeats 4000000 in
set_option maxRecDepth 100000 in
theorem c_Patrols_plan {l : Launch} {g : EG} {ad ta : Nat → Nat} {Rr : va_W} {σ σ' : CS} {r : Int32}   (h : f_Patrols_plan σ = some (r, σ')) (hφ2 : ph σ.2.2 ≤ BB) : CtV l g yX4_plan (.code yX4_plan cX4_plan 3 none) 6 162 ad ta Rr σ [.ref (ad 9)] r σ' := by
  refine Ct.of rfl (by decide) (Nat.le_of_ble_eq_true rfl) ?_
  intro p e s m args below meth c A C hr
  have hφ : ph σ.2.2 ≤ ph σ.2.2 := Nat.le_refl _
  refine nw_zero (ph σ.2.2) ?_
  show NV g p l e s m args below meth c A 6 162 3 ad Rr (ph σ.2.2) (r, σ') ta σ [(0, .ref (ad 9))] 0 []
  unfold f_Patrols_plan at h
  refine nw_aload_n C dX4_plan_0 rfl 0 rfl ?_
  refine nw_get (v := .int (σ.1 68)) C in_X4 9 cl_Patrols rfl 8 (by decide) tw_472 rfl rfl dX4_plan_1 ?_
  refine nw_if_ne (tgt := 8) C dX4_plan_4 (by decide) h (fun _ h => ?_) (fun _ h => ?_)
  · exact nc_vret C hr dX4_plan_7 hφ hφ2 h
  · refine nw_aload_n C dX4_plan_8 rfl 0 rfl ?_
    refine nw_iconst (v := 0) C dX4_plan_9 (by decide) ?_
    refine nw_put (ty := .boolean) C in_X4 9 cl_Patrols rfl 8 (by decide) tyX4 tyX4_ok nmX4 tw_472 rfl rfl (by decide +kernel) (nar_b (Or.inl rfl)) (fit_b (Or.inl rfl)) (Nat.le_of_ble_eq_true rfl) dX4_plan_10 cs_Patrols_stale ?_
    refine nw_aload_n C dX4_plan_13 rfl 0 rfl ?_
    refine nw_iconst (v := 0) C dX4_plan_14 (by decide) ?_
    refine nc_callVI (q0 := 9) (As := [.int 0]) (rest := []) C h (fun _ _ e => c_Patrols_nextWithLodge e hφ2) tw_624 kv_X4_nextWithLodge cl_Patrols rfl ⟨Nat.le_of_ble_eq_true rfl, Nat.le_of_ble_eq_true rfl⟩ rfl dX4_plan_15 rfl (Nat.le_of_ble_eq_true rfl) hφ hφ2 (fun r15 σ15 ta h hφ hφ2 => ?_)
    refine nw_istore_n (lv' := [(1, .int r15), (0, .ref (ad 9))]) C dX4_plan_18 rfl (by decide) rfl ?_
    refine nw_iload_n C dX4_plan_19 rfl 0 rfl ?_
    refine nw_iconst (v := (-1)) C dX4_plan_20 (by decide) ?_
    refine nw_icmp_ne (tgt := 28) C dX4_plan_21 (by decide) h (fun _ h => ?_) (fun _ h => ?_)
    · refine nw_iconst (v := (-1)) C dX4_plan_24 (by decide) ?_
      refine nw_goto (tgt := 35) C dX4_plan_25 (by decide) ?_
      exact nw_lv (lv' := [(0, .ref (ad 9)), (1, .int r15)]) [1, 0] rfl (w_Patrols_plan_35 C hr r15 (-1) _ _ hφ hφ2 h)
    · refine nw_aload_n C dX4_plan_28 rfl 1 rfl ?_
      refine nw_iload_n C dX4_plan_29 rfl 0 rfl ?_
      refine nw_iconst (v := 1) C dX4_plan_30 (by decide) ?_
      refine nw_iadd C dX4_plan_31 ?_
      refine nc_callVI (q0 := 9) (As := [.int (r15 + 1)]) (rest := []) C h (fun _ _ e => c_Patrols_nextWithLodge e hφ2) tw_624 kv_X4_nextWithLodge cl_Patrols rfl ⟨Nat.le_of_ble_eq_true rfl, Nat.le_of_ble_eq_true rfl⟩ rfl dX4_plan_32 rfl (Nat.le_of_ble_eq_true rfl) hφ hφ2 (fun r32 σ32 ta h hφ hφ2 => ?_)
      exact nw_lv (lv' := [(0, .ref (ad 9)), (1, .int r15)]) [1, 0] rfl (w_Patrols_plan_35 C hr r15 r32 _ _ hφ hφ2 h)
theorem dX11_beats_0 : decode cX11_beats 0 = .ok (.aload_n 0, 1) := by decide +kernel
theorem dX11_beats_1 : decode cX11_beats 1 = .ok (.getfield 81, 3) := by decide +kernel
theorem dX11_beats_4 : decode cX11_beats 4 = .ok (.invokevirtual 277, 3) := by decide +kernel
theorem dX11_beats_7 : decode cX11_beats 7 = .ok (.aload_n 0, 1) := by decide +kernel
theorem dX11_beats_8 : decode cX11_beats 8 = .ok (.getfield 81, 3) := by decide +kernel
theorem dX11_beats_11 : decode cX11_beats 11 = .ok (.getfield 280, 3) := by decide +kernel
theorem dX11_beats_14 : decode cX11_beats 14 = .ok (.ireturn, 1) := by decide +kernel
def f_FC_beats  (σ : CS) : Option (Int32 × CS) := bnd (f_Patrols_plan σ) (fun _ σ4 => some ((σ4.1 67), σ4))
set_option maxHeartbeats 4000000 in
set_option maxRecDepth 100000 in
theorem c_FC_beats {l : Launch} {g : EG} {ad ta : Nat → Nat} {Rr : va_W} {σ σ' : CS} {r : Int32}   (h : f_FC_beats σ = some (r, σ')) (hφ2 : ph σ.2.2 ≤ BB) : CtI l g yX11_beats (.code yX11_beats cX11_beats 1 (some .int)) 7 184 ad ta Rr σ [.ref (ad 0)] r σ' := by
  refine Ct.of rfl (by decide) (Nat.le_of_ble_eq_true rfl) ?_
  intro p e s m args below meth c A C hr
  have hφ : ph σ.2.2 ≤ ph σ.2.2 := Nat.le_refl _
  refine nw_zero (ph σ.2.2) ?_
  show NI g p l e s m args below meth c A 7 184 1 ad Rr (ph σ.2.2) (r, σ') ta σ [(0, .ref (ad 0))] 0 []
  unfold f_FC_beats at h
  refine nw_aload_n C dX11_beats_0 rfl 0 rfl ?_
  refine nw_get (v := .ref (ad 9)) C in_X11 0 cl_FC rfl 8 (by decide) tw_518 rfl rfl dX11_beats_1 ?_
  refine nc_callVV (q0 := 9) (As := []) (rest := []) C h (fun _ _ e => c_Patrols_plan e hφ2) tw_620 kv_X4_plan cl_Patrols rfl ⟨Nat.le_of_ble_eq_true rfl, Nat.le_of_ble_eq_true rfl⟩ rfl dX11_beats_4 rfl (Nat.le_of_ble_eq_true rfl) hφ hφ2 (fun r4 σ4 ta h hφ hφ2 => ?_)
  refine nw_aload_n C dX11_beats_7 rfl 0 rfl ?_
  refine nw_get (v := .ref (ad 9)) C in_X11 0 cl_FC rfl 8 (by decide) tw_518 rfl rfl dX11_beats_8 ?_
  refine nw_getN (v := .int (σ4.1 67)) C in_X4 9 cl_Patrols rfl 7 (by decide) tw_471 rfl rfl dX11_beats_11 ?_
  exact nc_iret C hr dX11_beats_14 hφ hφ2 h
theorem dX11_count_0 : decode cX11_count 0 = .ok (.iload_n 1, 1) := by decide +kernel
theorem dX11_count_1 : decode cX11_count 1 = .ok (.tableswitch 216 0 13 #[71, 79, 90, 101, 112, 123, 134, 145, 156, 164, 175, 186, 197, 208], 71) := by decide +kernel
theorem dX11_count_72 : decode cX11_count 72 = .ok (.aload_n 0, 1) := by decide +kernel
theorem dX11_count_73 : decode cX11_count 73 = .ok (.getfield 64, 3) := by decide +kernel
theorem dX11_count_76 : decode cX11_count 76 = .ok (.getfield 100, 3) := by decide +kernel
theorem dX11_count_79 : decode cX11_count 79 = .ok (.ireturn, 1) := by decide +kernel
theorem dX11_count_80 : decode cX11_count 80 = .ok (.aload_n 0, 1) := by decide +kernel
theorem dX11_count_81 : decode cX11_count 81 = .ok (.getfield 21, 3) := by decide +kernel
theorem dX11_count_84 : decode cX11_count 84 = .ok (.getfield 123, 3) := by decide +kernel
theorem dX11_count_87 : decode cX11_count 87 = .ok (.invokevirtual 111, 3) := by decide +kernel
theorem dX11_count_90 : decode cX11_count 90 = .ok (.ireturn, 1) := by decide +kernel
theorem dX11_count_91 : decode cX11_count 91 = .ok (.aload_n 0, 1) := by decide +kernel
theorem dX11_count_92 : decode cX11_count 92 = .ok (.getfield 21, 3) := by decide +kernel
theorem dX11_count_95 : decode cX11_count 95 = .ok (.getfield 145, 3) := by decide +kernel
theorem dX11_count_98 : decode cX11_count 98 = .ok (.invokevirtual 111, 3) := by decide +kernel
theorem dX11_count_101 : decode cX11_count 101 = .ok (.ireturn, 1) := by decide +kernel
theorem dX11_count_102 : decode cX11_count 102 = .ok (.aload_n 0, 1) := by decide +kernel
theorem dX11_count_103 : decode cX11_count 103 = .ok (.getfield 39, 3) := by decide +kernel
theorem dX11_count_106 : decode cX11_count 106 = .ok (.getfield 183, 3) := by decide +kernel
theorem dX11_count_109 : decode cX11_count 109 = .ok (.invokevirtual 111, 3) := by decide +kernel
theorem dX11_count_112 : decode cX11_count 112 = .ok (.ireturn, 1) := by decide +kernel
theorem dX11_count_113 : decode cX11_count 113 = .ok (.aload_n 0, 1) := by decide +kernel
theorem dX11_count_114 : decode cX11_count 114 = .ok (.getfield 46, 3) := by decide +kernel
theorem dX11_count_117 : decode cX11_count 117 = .ok (.getfield 194, 3) := by decide +kernel
theorem dX11_count_120 : decode cX11_count 120 = .ok (.invokevirtual 111, 3) := by decide +kernel
theorem dX11_count_123 : decode cX11_count 123 = .ok (.ireturn, 1) := by decide +kernel
theorem dX11_count_124 : decode cX11_count 124 = .ok (.aload_n 0, 1) := by decide +kernel
theorem dX11_count_125 : decode cX11_count 125 = .ok (.getfield 64, 3) := by decide +kernel
theorem dX11_count_128 : decode cX11_count 128 = .ok (.getfield 77, 3) := by decide +kernel
theorem dX11_count_131 : decode cX11_count 131 = .ok (.invokevirtual 111, 3) := by decide +kernel
theorem dX11_count_134 : decode cX11_count 134 = .ok (.ireturn, 1) := by decide +kernel
theorem dX11_count_135 : decode cX11_count 135 = .ok (.aload_n 0, 1) := by decide +kernel
theorem dX11_count_136 : decode cX11_count 136 = .ok (.getfield 64, 3) := by decide +kernel
theorem dX11_count_139 : decode cX11_count 139 = .ok (.getfield 223, 3) := by decide +kernel
theorem dX11_count_142 : decode cX11_count 142 = .ok (.invokevirtual 111, 3) := by decide +kernel
theorem dX11_count_145 : decode cX11_count 145 = .ok (.ireturn, 1) := by decide +kernel
theorem dX11_count_146 : decode cX11_count 146 = .ok (.aload_n 0, 1) := by decide +kernel
theorem dX11_count_147 : decode cX11_count 147 = .ok (.getfield 64, 3) := by decide +kernel
theorem dX11_count_150 : decode cX11_count 150 = .ok (.getfield 242, 3) := by decide +kernel
theorem dX11_count_153 : decode cX11_count 153 = .ok (.invokevirtual 111, 3) := by decide +kernel
theorem dX11_count_156 : decode cX11_count 156 = .ok (.ireturn, 1) := by decide +kernel
theorem dX11_count_157 : decode cX11_count 157 = .ok (.aload_n 0, 1) := by decide +kernel
theorem dX11_count_158 : decode cX11_count 158 = .ok (.getfield 64, 3) := by decide +kernel
theorem dX11_count_161 : decode cX11_count 161 = .ok (.getfield 306, 3) := by decide +kernel
theorem dX11_count_164 : decode cX11_count 164 = .ok (.ireturn, 1) := by decide +kernel
theorem dX11_count_165 : decode cX11_count 165 = .ok (.aload_n 0, 1) := by decide +kernel
theorem dX11_count_166 : decode cX11_count 166 = .ok (.getfield 55, 3) := by decide +kernel
theorem dX11_count_169 : decode cX11_count 169 = .ok (.getfield 251, 3) := by decide +kernel
theorem dX11_count_172 : decode cX11_count 172 = .ok (.invokevirtual 111, 3) := by decide +kernel
theorem dX11_count_175 : decode cX11_count 175 = .ok (.ireturn, 1) := by decide +kernel
theorem dX11_count_176 : decode cX11_count 176 = .ok (.aload_n 0, 1) := by decide +kernel
theorem dX11_count_177 : decode cX11_count 177 = .ok (.getfield 81, 3) := by decide +kernel
theorem dX11_count_180 : decode cX11_count 180 = .ok (.getfield 283, 3) := by decide +kernel
theorem dX11_count_183 : decode cX11_count 183 = .ok (.invokevirtual 111, 3) := by decide +kernel
theorem dX11_count_186 : decode cX11_count 186 = .ok (.ireturn, 1) := by decide +kernel
theorem dX11_count_187 : decode cX11_count 187 = .ok (.aload_n 0, 1) := by decide +kernel
theorem dX11_count_188 : decode cX11_count 188 = .ok (.getfield 88, 3) := by decide +kernel
theorem dX11_count_191 : decode cX11_count 191 = .ok (.getfield 295, 3) := by decide +kernel
theorem dX11_count_194 : decode cX11_count 194 = .ok (.invokevirtual 111, 3) := by decide +kernel
theorem dX11_count_197 : decode cX11_count 197 = .ok (.ireturn, 1) := by decide +kernel
theorem dX11_count_198 : decode cX11_count 198 = .ok (.aload_n 0, 1) := by decide +kernel
theorem dX11_count_199 : decode cX11_count 199 = .ok (.getfield 88, 3) := by decide +kernel
theorem dX11_count_202 : decode cX11_count 202 = .ok (.getfield 309, 3) := by decide +kernel
theorem dX11_count_205 : decode cX11_count 205 = .ok (.invokevirtual 111, 3) := by decide +kernel
theorem dX11_count_208 : decode cX11_count 208 = .ok (.ireturn, 1) := by decide +kernel
theorem dX11_count_209 : decode cX11_count 209 = .ok (.aload_n 0, 1) := by decide +kernel
theorem dX11_count_210 : decode cX11_count 210 = .ok (.getfield 14, 3) := by decide +kernel
theorem dX11_count_213 : decode cX11_count 213 = .ok (.invokevirtual 111, 3) := by decide +kernel
theorem dX11_count_216 : decode cX11_count 216 = .ok (.ireturn, 1) := by decide +kernel
theorem dX11_count_217 : decode cX11_count 217 = .ok (.iconst (-1), 1) := by decide +kernel
theorem dX11_count_218 : decode cX11_count 218 = .ok (.ireturn, 1) := by decide +kernel
def f_FC_count (p0 : Int32) (σ : CS) : Option (Int32 × CS) := if p0 = 0 then some ((σ.1 62), σ) else if p0 = 1 then bnd (f_Table_size 1 σ) (fun r87 σ87 => some (r87, σ87)) else if p0 = 2 then bnd (f_Table_size 2 σ) (fun r98 σ98 => some (r98, σ98)) else if p0 = 3 then bnd (f_Table_size 3 σ) (fun r109 σ109 => some (r109, σ109)) else if p0 = 4 then bnd (f_Table_size 6 σ) (fun r120 σ120 => some (r120, σ120)) else if p0 = 5 then bnd (f_Table_size 9 σ) (fun r131 σ131 => some (r131, σ131)) else if p0 = 6 then bnd (f_Table_size 10 σ) (fun r142 σ142 => some (r142, σ142)) else if p0 = 7 then bnd (f_Table_size 11 σ) (fun r153 σ153 => some (r153, σ153)) else if p0 = 8 then some ((σ.1 63), σ) else if p0 = 9 then bnd (f_Table_size 7 σ) (fun r172 σ172 => some (r172, σ172)) else if p0 = 10 then bnd (f_Table_size 13 σ) (fun r183 σ183 => some (r183, σ183)) else if p0 = 11 then bnd (f_Table_size 14 σ) (fun r194 σ194 => some (r194, σ194)) else if p0 = 12 then bnd (f_Table_size 15 σ) (fun r205 σ205 => some (r205, σ205)) else if p0 = 13 then bnd (f_Table_size 0 σ) (fun r213 σ213 => some (r213, σ213)) else some ((-1), σ)
set_option maxHeartbeats 4000000 in
set_option maxRecDepth 100000 in
theorem c_FC_count {l : Launch} {g : EG} {ad ta : Nat → Nat} {Rr : va_W} {σ σ' : CS} {r : Int32} {p0 : Int32}  (h : f_FC_count p0 σ = some (r, σ')) (hφ2 : ph σ.2.2 ≤ BB) : CtI l g yX11_count (.code yX11_count cX11_count 2 (some .int)) 1 20 ad ta Rr σ [.ref (ad 0), .int p0] r σ' := by
  refine Ct.of rfl (by decide) (Nat.le_of_ble_eq_true rfl) ?_
  intro p e s m args below meth c A C hr
  have hφ : ph σ.2.2 ≤ ph σ.2.2 := Nat.le_refl _
  refine nw_zero (ph σ.2.2) ?_
  show NI g p l e s m args below meth c A 1 20 2 ad Rr (ph σ.2.2) (r, σ') ta σ [(0, .ref (ad 0)), (1, .int p0)] 0 []
  unfold f_FC_count at h
  refine nw_iload_n C dX11_count_0 rfl 1 rfl ?_
  refine nw_tsCase (tgt := 72) C 0 dX11_count_1 (by decide) (by decide) rfl (by decide) h (fun _ h => ?_) (fun hc0 h => ?_)
  · refine nw_aload_n C dX11_count_72 rfl 0 rfl ?_
    refine nw_get (v := .ref (ad 7)) C in_X11 0 cl_FC rfl 6 (by decide) tw_516 rfl rfl dX11_count_73 ?_
    refine nw_getN (v := .int (σ.1 62)) C in_X1 7 cl_Courts rfl 11 (by decide) tw_390 rfl rfl dX11_count_76 ?_
    exact nc_iret C hr dX11_count_79 hφ hφ2 h
  · refine nw_tsCase (tgt := 80) C 1 dX11_count_1 (by decide) (by decide) rfl (by decide) h (fun _ h => ?_) (fun hc1 h => ?_)
    · refine nw_aload_n C dX11_count_80 rfl 0 rfl ?_
      refine nw_get (v := .ref (ad 1)) C in_X11 0 cl_FC rfl 1 (by decide) tw_511 rfl rfl dX11_count_81 ?_
      refine nw_get (v := .ref (ad 12)) C in_X2 1 cl_Ground rfl 0 (by decide) tw_190 rfl rfl dX11_count_84 ?_
      refine nc_callVI (q0 := 12) (As := []) (rest := []) C h (fun _ _ e => c_Table_size 1 (by decide) e hφ2) tw_545 kv_X9_size (cl_T 1 (by decide)) rfl ⟨Nat.le_of_ble_eq_true rfl, Nat.le_of_ble_eq_true rfl⟩ rfl dX11_count_87 rfl (Nat.le_of_ble_eq_true rfl) hφ hφ2 (fun r87 σ87 ta h hφ hφ2 => ?_)
      exact nc_iret C hr dX11_count_90 hφ hφ2 h
    · refine nw_tsCase (tgt := 91) C 2 dX11_count_1 (by decide) (by decide) rfl (by decide) h (fun _ h => ?_) (fun hc2 h => ?_)
      · refine nw_aload_n C dX11_count_91 rfl 0 rfl ?_
        refine nw_get (v := .ref (ad 1)) C in_X11 0 cl_FC rfl 1 (by decide) tw_511 rfl rfl dX11_count_92 ?_
        refine nw_get (v := .ref (ad 13)) C in_X2 1 cl_Ground rfl 1 (by decide) tw_193 rfl rfl dX11_count_95 ?_
        refine nc_callVI (q0 := 13) (As := []) (rest := []) C h (fun _ _ e => c_Table_size 2 (by decide) e hφ2) tw_545 kv_X9_size (cl_T 2 (by decide)) rfl ⟨Nat.le_of_ble_eq_true rfl, Nat.le_of_ble_eq_true rfl⟩ rfl dX11_count_98 rfl (Nat.le_of_ble_eq_true rfl) hφ hφ2 (fun r98 σ98 ta h hφ hφ2 => ?_)
        exact nc_iret C hr dX11_count_101 hφ hφ2 h
      · refine nw_tsCase (tgt := 102) C 3 dX11_count_1 (by decide) (by decide) rfl (by decide) h (fun _ h => ?_) (fun hc3 h => ?_)
        · refine nw_aload_n C dX11_count_102 rfl 0 rfl ?_
          refine nw_get (v := .ref (ad 3)) C in_X11 0 cl_FC rfl 3 (by decide) tw_513 rfl rfl dX11_count_103 ?_
          refine nw_get (v := .ref (ad 14)) C in_X3 3 cl_Laws rfl 0 (by decide) tw_278 rfl rfl dX11_count_106 ?_
          refine nc_callVI (q0 := 14) (As := []) (rest := []) C h (fun _ _ e => c_Table_size 3 (by decide) e hφ2) tw_545 kv_X9_size (cl_T 3 (by decide)) rfl ⟨Nat.le_of_ble_eq_true rfl, Nat.le_of_ble_eq_true rfl⟩ rfl dX11_count_109 rfl (Nat.le_of_ble_eq_true rfl) hφ hφ2 (fun r109 σ109 ta h hφ hφ2 => ?_)
          exact nc_iret C hr dX11_count_112 hφ hφ2 h
        · refine nw_tsCase (tgt := 113) C 4 dX11_count_1 (by decide) (by decide) rfl (by decide) h (fun _ h => ?_) (fun hc4 h => ?_)
          · refine nw_aload_n C dX11_count_113 rfl 0 rfl ?_
            refine nw_get (v := .ref (ad 5)) C in_X11 0 cl_FC rfl 4 (by decide) tw_514 rfl rfl dX11_count_114 ?_
            refine nw_get (v := .ref (ad 17)) C in_X5 5 cl_People rfl 0 (by decide) tw_314 rfl rfl dX11_count_117 ?_
            refine nc_callVI (q0 := 17) (As := []) (rest := []) C h (fun _ _ e => c_Table_size 6 (by decide) e hφ2) tw_545 kv_X9_size (cl_T 6 (by decide)) rfl ⟨Nat.le_of_ble_eq_true rfl, Nat.le_of_ble_eq_true rfl⟩ rfl dX11_count_120 rfl (Nat.le_of_ble_eq_true rfl) hφ hφ2 (fun r120 σ120 ta h hφ hφ2 => ?_)
            exact nc_iret C hr dX11_count_123 hφ hφ2 h
          · refine nw_tsCase (tgt := 124) C 5 dX11_count_1 (by decide) (by decide) rfl (by decide) h (fun _ h => ?_) (fun hc5 h => ?_)
            · refine nw_aload_n C dX11_count_124 rfl 0 rfl ?_
              refine nw_get (v := .ref (ad 7)) C in_X11 0 cl_FC rfl 6 (by decide) tw_516 rfl rfl dX11_count_125 ?_
              refine nw_get (v := .ref (ad 20)) C in_X1 7 cl_Courts rfl 0 (by decide) tw_377 rfl rfl dX11_count_128 ?_
              refine nc_callVI (q0 := 20) (As := []) (rest := []) C h (fun _ _ e => c_Table_size 9 (by decide) e hφ2) tw_545 kv_X9_size (cl_T 9 (by decide)) rfl ⟨Nat.le_of_ble_eq_true rfl, Nat.le_of_ble_eq_true rfl⟩ rfl dX11_count_131 rfl (Nat.le_of_ble_eq_true rfl) hφ hφ2 (fun r131 σ131 ta h hφ hφ2 => ?_)
              exact nc_iret C hr dX11_count_134 hφ hφ2 h
            · refine nw_tsCase (tgt := 135) C 6 dX11_count_1 (by decide) (by decide) rfl (by decide) h (fun _ h => ?_) (fun hc6 h => ?_)
              · refine nw_aload_n C dX11_count_135 rfl 0 rfl ?_
                refine nw_get (v := .ref (ad 7)) C in_X11 0 cl_FC rfl 6 (by decide) tw_516 rfl rfl dX11_count_136 ?_
                refine nw_get (v := .ref (ad 21)) C in_X1 7 cl_Courts rfl 1 (by decide) tw_379 rfl rfl dX11_count_139 ?_
                refine nc_callVI (q0 := 21) (As := []) (rest := []) C h (fun _ _ e => c_Table_size 10 (by decide) e hφ2) tw_545 kv_X9_size (cl_T 10 (by decide)) rfl ⟨Nat.le_of_ble_eq_true rfl, Nat.le_of_ble_eq_true rfl⟩ rfl dX11_count_142 rfl (Nat.le_of_ble_eq_true rfl) hφ hφ2 (fun r142 σ142 ta h hφ hφ2 => ?_)
                exact nc_iret C hr dX11_count_145 hφ hφ2 h
              · refine nw_tsCase (tgt := 146) C 7 dX11_count_1 (by decide) (by decide) rfl (by decide) h (fun _ h => ?_) (fun hc7 h => ?_)
                · refine nw_aload_n C dX11_count_146 rfl 0 rfl ?_
                  refine nw_get (v := .ref (ad 7)) C in_X11 0 cl_FC rfl 6 (by decide) tw_516 rfl rfl dX11_count_147 ?_
                  refine nw_get (v := .ref (ad 22)) C in_X1 7 cl_Courts rfl 2 (by decide) tw_381 rfl rfl dX11_count_150 ?_
                  refine nc_callVI (q0 := 22) (As := []) (rest := []) C h (fun _ _ e => c_Table_size 11 (by decide) e hφ2) tw_545 kv_X9_size (cl_T 11 (by decide)) rfl ⟨Nat.le_of_ble_eq_true rfl, Nat.le_of_ble_eq_true rfl⟩ rfl dX11_count_153 rfl (Nat.le_of_ble_eq_true rfl) hφ hφ2 (fun r153 σ153 ta h hφ hφ2 => ?_)
                  exact nc_iret C hr dX11_count_156 hφ hφ2 h
                · refine nw_tsCase (tgt := 157) C 8 dX11_count_1 (by decide) (by decide) rfl (by decide) h (fun _ h => ?_) (fun hc8 h => ?_)
                  · refine nw_aload_n C dX11_count_157 rfl 0 rfl ?_
                    refine nw_get (v := .ref (ad 7)) C in_X11 0 cl_FC rfl 6 (by decide) tw_516 rfl rfl dX11_count_158 ?_
                    refine nw_getN (v := .int (σ.1 63)) C in_X1 7 cl_Courts rfl 12 (by decide) tw_393 rfl rfl dX11_count_161 ?_
                    exact nc_iret C hr dX11_count_164 hφ hφ2 h
                  · refine nw_tsCase (tgt := 165) C 9 dX11_count_1 (by decide) (by decide) rfl (by decide) h (fun _ h => ?_) (fun hc9 h => ?_)
                    · refine nw_aload_n C dX11_count_165 rfl 0 rfl ?_
                      refine nw_get (v := .ref (ad 6)) C in_X11 0 cl_FC rfl 5 (by decide) tw_515 rfl rfl dX11_count_166 ?_
                      refine nw_get (v := .ref (ad 18)) C in_X0 6 cl_Claims rfl 0 (by decide) tw_327 rfl rfl dX11_count_169 ?_
                      refine nc_callVI (q0 := 18) (As := []) (rest := []) C h (fun _ _ e => c_Table_size 7 (by decide) e hφ2) tw_545 kv_X9_size (cl_T 7 (by decide)) rfl ⟨Nat.le_of_ble_eq_true rfl, Nat.le_of_ble_eq_true rfl⟩ rfl dX11_count_172 rfl (Nat.le_of_ble_eq_true rfl) hφ hφ2 (fun r172 σ172 ta h hφ hφ2 => ?_)
                      exact nc_iret C hr dX11_count_175 hφ hφ2 h
                    · refine nw_tsCase (tgt := 176) C 10 dX11_count_1 (by decide) (by decide) rfl (by decide) h (fun _ h => ?_) (fun hc10 h => ?_)
                      · refine nw_aload_n C dX11_count_176 rfl 0 rfl ?_
                        refine nw_get (v := .ref (ad 9)) C in_X11 0 cl_FC rfl 8 (by decide) tw_518 rfl rfl dX11_count_177 ?_
                        refine nw_get (v := .ref (ad 24)) C in_X4 9 cl_Patrols rfl 1 (by decide) tw_464 rfl rfl dX11_count_180 ?_
                        refine nc_callVI (q0 := 24) (As := []) (rest := []) C h (fun _ _ e => c_Table_size 13 (by decide) e hφ2) tw_545 kv_X9_size (cl_T 13 (by decide)) rfl ⟨Nat.le_of_ble_eq_true rfl, Nat.le_of_ble_eq_true rfl⟩ rfl dX11_count_183 rfl (Nat.le_of_ble_eq_true rfl) hφ hφ2 (fun r183 σ183 ta h hφ hφ2 => ?_)
                        exact nc_iret C hr dX11_count_186 hφ hφ2 h
                      · refine nw_tsCase (tgt := 187) C 11 dX11_count_1 (by decide) (by decide) rfl (by decide) h (fun _ h => ?_) (fun hc11 h => ?_)
                        · refine nw_aload_n C dX11_count_187 rfl 0 rfl ?_
                          refine nw_get (v := .ref (ad 10)) C in_X11 0 cl_FC rfl 9 (by decide) tw_519 rfl rfl dX11_count_188 ?_
                          refine nw_get (v := .ref (ad 25)) C in_X10 10 cl_Woods rfl 0 (by decide) tw_502 rfl rfl dX11_count_191 ?_
                          refine nc_callVI (q0 := 25) (As := []) (rest := []) C h (fun _ _ e => c_Table_size 14 (by decide) e hφ2) tw_545 kv_X9_size (cl_T 14 (by decide)) rfl ⟨Nat.le_of_ble_eq_true rfl, Nat.le_of_ble_eq_true rfl⟩ rfl dX11_count_194 rfl (Nat.le_of_ble_eq_true rfl) hφ hφ2 (fun r194 σ194 ta h hφ hφ2 => ?_)
                          exact nc_iret C hr dX11_count_197 hφ hφ2 h
                        · refine nw_tsCase (tgt := 198) C 12 dX11_count_1 (by decide) (by decide) rfl (by decide) h (fun _ h => ?_) (fun hc12 h => ?_)
                          · refine nw_aload_n C dX11_count_198 rfl 0 rfl ?_
                            refine nw_get (v := .ref (ad 10)) C in_X11 0 cl_FC rfl 9 (by decide) tw_519 rfl rfl dX11_count_199 ?_
                            refine nw_get (v := .ref (ad 26)) C in_X10 10 cl_Woods rfl 1 (by decide) tw_504 rfl rfl dX11_count_202 ?_
                            refine nc_callVI (q0 := 26) (As := []) (rest := []) C h (fun _ _ e => c_Table_size 15 (by decide) e hφ2) tw_545 kv_X9_size (cl_T 15 (by decide)) rfl ⟨Nat.le_of_ble_eq_true rfl, Nat.le_of_ble_eq_true rfl⟩ rfl dX11_count_205 rfl (Nat.le_of_ble_eq_true rfl) hφ hφ2 (fun r205 σ205 ta h hφ hφ2 => ?_)
                            exact nc_iret C hr dX11_count_208 hφ hφ2 h
                          · refine nw_tsCase (tgt := 209) C 13 dX11_count_1 (by decide) (by decide) rfl (by decide) h (fun _ h => ?_) (fun hc13 h => ?_)
                            · refine nw_aload_n C dX11_count_209 rfl 0 rfl ?_
                              refine nw_get (v := .ref (ad 11)) C in_X11 0 cl_FC rfl 0 (by decide) tw_510 rfl rfl dX11_count_210 ?_
                              refine nc_callVI (q0 := 11) (As := []) (rest := []) C h (fun _ _ e => c_Table_size 0 (by decide) e hφ2) tw_545 kv_X9_size (cl_T 0 (by decide)) rfl ⟨Nat.le_of_ble_eq_true rfl, Nat.le_of_ble_eq_true rfl⟩ rfl dX11_count_213 rfl (Nat.le_of_ble_eq_true rfl) hφ hφ2 (fun r213 σ213 ta h hφ hφ2 => ?_)
                              exact nc_iret C hr dX11_count_216 hφ hφ2 h
                            · refine nw_tsOut (tgt := 217) C dX11_count_1 (by have q0 := lv_neT hc0 (a := 0) (by decide); have q1 := lv_neT hc1 (a := 1) (by decide); have q2 := lv_neT hc2 (a := 2) (by decide); have q3 := lv_neT hc3 (a := 3) (by decide); have q4 := lv_neT hc4 (a := 4) (by decide); have q5 := lv_neT hc5 (a := 5) (by decide); have q6 := lv_neT hc6 (a := 6) (by decide); have q7 := lv_neT hc7 (a := 7) (by decide); have q8 := lv_neT hc8 (a := 8) (by decide); have q9 := lv_neT hc9 (a := 9) (by decide); have q10 := lv_neT hc10 (a := 10) (by decide); have q11 := lv_neT hc11 (a := 11) (by decide); have q12 := lv_neT hc12 (a := 12) (by decide); have q13 := lv_neT hc13 (a := 13) (by decide); omega) (by decide) ?_
                              refine nw_iconst (v := (-1)) C dX11_count_217 (by decide) ?_
                              exact nc_iret C hr dX11_count_218 hφ hφ2 h
theorem dX11_within_0 : decode cX11_within 0 = .ok (.iload_n 0, 1) := by decide +kernel
theorem dX11_within_1 : decode cX11_within 1 = .ok (.iload_n 1, 1) := by decide +kernel
theorem dX11_within_2 : decode cX11_within 2 = .ok (.if_icmp .lt 12, 3) := by decide +kernel
theorem dX11_within_5 : decode cX11_within 5 = .ok (.iload_n 0, 1) := by decide +kernel
theorem dX11_within_6 : decode cX11_within 6 = .ok (.iload_n 2, 1) := by decide +kernel
theorem dX11_within_7 : decode cX11_within 7 = .ok (.if_icmp .gt 7, 3) := by decide +kernel
theorem dX11_within_10 : decode cX11_within 10 = .ok (.iconst 1, 1) := by decide +kernel
theorem dX11_within_11 : decode cX11_within 11 = .ok (.goto 4, 3) := by decide +kernel
theorem dX11_within_14 : decode cX11_within 14 = .ok (.iconst 0, 1) := by decide +kernel
theorem dX11_within_15 : decode cX11_within 15 = .ok (.ireturn, 1) := by decide +kernel
def f_FC_within (p0 : Int32) (p1 : Int32) (p2 : Int32) (σ : CS) : Option (Int32 × CS) := if p0 < p1 then some (0, σ) else if p2 < p0 then some (0, σ) else some (1, σ)
set_option maxHeartbeats 4000000 in
set_option maxRecDepth 100000 in
theorem c_FC_within {l : Launch} {g : EG} {ad ta : Nat → Nat} {Rr : va_W} {σ σ' : CS} {r : Int32} {p0 : Int32} {p1 : Int32} {p2 : Int32}  (h : f_FC_within p0 p1 p2 σ = some (r, σ')) (hφ2 : ph σ.2.2 ≤ BB) : CtI l g yX11_within (.code yX11_within cX11_within 3 (some .boolean)) 0 0 ad ta Rr σ [.int p0, .int p1, .int p2] r σ' := by
  refine Ct.of rfl (by decide) (Nat.le_of_ble_eq_true rfl) ?_
  intro p e s m args below meth c A C hr
  have hφ : ph σ.2.2 ≤ ph σ.2.2 := Nat.le_refl _
  refine nw_zero (ph σ.2.2) ?_
  show NI g p l e s m args below meth c A 0 0 3 ad Rr (ph σ.2.2) (r, σ') ta σ [(0, .int p0), (1, .int p1), (2, .int p2)] 0 []
  unfold f_FC_within at h
  refine nw_iload_n C dX11_within_0 rfl 0 rfl ?_
  refine nw_iload_n C dX11_within_1 rfl 1 rfl ?_
  refine nw_icmp_lt (tgt := 14) C dX11_within_2 (by decide) h (fun _ h => ?_) (fun _ h => ?_)
  · refine nw_iconst (v := 0) C dX11_within_14 (by decide) ?_
    exact nc_zret C hr (Or.inl rfl) dX11_within_15 hφ hφ2 h
  · refine nw_iload_n C dX11_within_5 rfl 0 rfl ?_
    refine nw_iload_n C dX11_within_6 rfl 2 rfl ?_
    refine nw_icmp_gt (tgt := 14) C dX11_within_7 (by decide) h (fun _ h => ?_) (fun _ h => ?_)
    · refine nw_iconst (v := 0) C dX11_within_14 (by decide) ?_
      exact nc_zret C hr (Or.inl rfl) dX11_within_15 hφ hφ2 h
    · refine nw_iconst (v := 1) C dX11_within_10 (by decide) ?_
      refine nw_goto (tgt := 15) C dX11_within_11 (by decide) ?_
      exact nc_zret C hr (Or.inr rfl) dX11_within_15 hφ hφ2 h
theorem dX11_isDay_0 : decode cX11_isDay 0 = .ok (.iload_n 0, 1) := by decide +kernel
theorem dX11_isDay_1 : decode cX11_isDay 1 = .ok (.iconst 0, 1) := by decide +kernel
theorem dX11_isDay_2 : decode cX11_isDay 2 = .ok (.ldc 104, 2) := by decide +kernel
theorem dX11_isDay_4 : decode cX11_isDay 4 = .ok (.invokestatic 92, 3) := by decide +kernel
theorem dX11_isDay_7 : decode cX11_isDay 7 = .ok (.ireturn, 1) := by decide +kernel
def f_FC_isDay (p0 : Int32) (σ : CS) : Option (Int32 × CS) := bnd (f_FC_within p0 0 100000 σ) (fun r4 σ4 => grd (r4 = 0 ∨ r4 = 1) (some (r4, σ4)))
set_option maxHeartbeats 4000000 in
set_option maxRecDepth 100000 in
theorem c_FC_isDay {l : Launch} {g : EG} {ad ta : Nat → Nat} {Rr : va_W} {σ σ' : CS} {r : Int32} {p0 : Int32}  (h : f_FC_isDay p0 σ = some (r, σ')) (hφ2 : ph σ.2.2 ≤ BB) : CtI l g yX11_isDay (.code yX11_isDay cX11_isDay 1 (some .boolean)) 1 22 ad ta Rr σ [.int p0] r σ' := by
  refine Ct.of rfl (by decide) (Nat.le_of_ble_eq_true rfl) ?_
  intro p e s m args below meth c A C hr
  have hφ : ph σ.2.2 ≤ ph σ.2.2 := Nat.le_refl _
  refine nw_zero (ph σ.2.2) ?_
  show NI g p l e s m args below meth c A 1 22 1 ad Rr (ph σ.2.2) (r, σ') ta σ [(0, .int p0)] 0 []
  unfold f_FC_isDay at h
  refine nw_iload_n C dX11_isDay_0 rfl 0 rfl ?_
  refine nw_iconst (v := 0) C dX11_isDay_1 (by decide) ?_
  refine nw_ldc (v := 100000) C tw_749 dX11_isDay_2 ?_
  refine nc_callSI  (As := [.int p0, .int 0, .int 100000]) (rest := []) C h (fun _ _ e => c_FC_within e hφ2) tw_675 ks_X11_within ⟨Nat.le_of_ble_eq_true rfl, Nat.le_of_ble_eq_true rfl⟩ rfl dX11_isDay_4 rfl (Nat.le_of_ble_eq_true rfl) hφ hφ2 (fun r4 σ4 ta h hφ hφ2 => ?_)
  exact nc_zretg C hr dX11_isDay_7 hφ hφ2 h
theorem dX11_isYear_0 : decode cX11_isYear 0 = .ok (.iload_n 0, 1) := by decide +kernel
theorem dX11_isYear_1 : decode cX11_isYear 1 = .ok (.iconst 0, 1) := by decide +kernel
theorem dX11_isYear_2 : decode cX11_isYear 2 = .ok (.sipush 277, 3) := by decide +kernel
theorem dX11_isYear_5 : decode cX11_isYear 5 = .ok (.invokestatic 92, 3) := by decide +kernel
theorem dX11_isYear_8 : decode cX11_isYear 8 = .ok (.ireturn, 1) := by decide +kernel
def f_FC_isYear (p0 : Int32) (σ : CS) : Option (Int32 × CS) := bnd (f_FC_within p0 0 277 σ) (fun r5 σ5 => grd (r5 = 0 ∨ r5 = 1) (some (r5, σ5)))
set_option maxHeartbeats 4000000 in
set_option maxRecDepth 100000 in
theorem c_FC_isYear {l : Launch} {g : EG} {ad ta : Nat → Nat} {Rr : va_W} {σ σ' : CS} {r : Int32} {p0 : Int32}  (h : f_FC_isYear p0 σ = some (r, σ')) (hφ2 : ph σ.2.2 ≤ BB) : CtI l g yX11_isYear (.code yX11_isYear cX11_isYear 1 (some .boolean)) 1 22 ad ta Rr σ [.int p0] r σ' := by
  refine Ct.of rfl (by decide) (Nat.le_of_ble_eq_true rfl) ?_
  intro p e s m args below meth c A C hr
  have hφ : ph σ.2.2 ≤ ph σ.2.2 := Nat.le_refl _
  refine nw_zero (ph σ.2.2) ?_
  show NI g p l e s m args below meth c A 1 22 1 ad Rr (ph σ.2.2) (r, σ') ta σ [(0, .int p0)] 0 []
  unfold f_FC_isYear at h
  refine nw_iload_n C dX11_isYear_0 rfl 0 rfl ?_
  refine nw_iconst (v := 0) C dX11_isYear_1 (by decide) ?_
  refine nw_sipush (v := 277) C dX11_isYear_2 (by decide) ?_
  refine nc_callSI  (As := [.int p0, .int 0, .int 277]) (rest := []) C h (fun _ _ e => c_FC_within e hφ2) tw_675 ks_X11_within ⟨Nat.le_of_ble_eq_true rfl, Nat.le_of_ble_eq_true rfl⟩ rfl dX11_isYear_5 rfl (Nat.le_of_ble_eq_true rfl) hφ hφ2 (fun r5 σ5 ta h hφ hφ2 => ?_)
  exact nc_zretg C hr dX11_isYear_8 hφ hφ2 h
theorem dX11_isPlace_0 : decode cX11_isPlace 0 = .ok (.iload_n 0, 1) := by decide +kernel
theorem dX11_isPlace_1 : decode cX11_isPlace 1 = .ok (.iconst 0, 1) := by decide +kernel
theorem dX11_isPlace_2 : decode cX11_isPlace 2 = .ok (.sipush 999, 3) := by decide +kernel
theorem dX11_isPlace_5 : decode cX11_isPlace 5 = .ok (.invokestatic 92, 3) := by decide +kernel
theorem dX11_isPlace_8 : decode cX11_isPlace 8 = .ok (.ifCond .eq 18, 3) := by decide +kernel
theorem dX11_isPlace_11 : decode cX11_isPlace 11 = .ok (.iload_n 1, 1) := by decide +kernel
theorem dX11_isPlace_12 : decode cX11_isPlace 12 = .ok (.iconst 0, 1) := by decide +kernel
theorem dX11_isPlace_13 : decode cX11_isPlace 13 = .ok (.sipush 999, 3) := by decide +kernel
theorem dX11_isPlace_16 : decode cX11_isPlace 16 = .ok (.invokestatic 92, 3) := by decide +kernel
theorem dX11_isPlace_19 : decode cX11_isPlace 19 = .ok (.ifCond .eq 7, 3) := by decide +kernel
theorem dX11_isPlace_22 : decode cX11_isPlace 22 = .ok (.iconst 1, 1) := by decide +kernel
theorem dX11_isPlace_23 : decode cX11_isPlace 23 = .ok (.goto 4, 3) := by decide +kernel
theorem dX11_isPlace_26 : decode cX11_isPlace 26 = .ok (.iconst 0, 1) := by decide +kernel
theorem dX11_isPlace_27 : decode cX11_isPlace 27 = .ok (.ireturn, 1) := by decide +kernel
def f_FC_isPlace (p0 : Int32) (p1 : Int32) (σ : CS) : Option (Int32 × CS) := bnd (f_FC_within p0 0 999 σ) (fun r5 σ5 => if r5 = 0 then some (0, σ5) else bnd (f_FC_within p1 0 999 σ5) (fun r16 σ16 => if r16 = 0 then some (0, σ16) else some (1, σ16)))
set_option maxHeartbeats 4000000 in
set_option maxRecDepth 100000 in
theorem c_FC_isPlace {l : Launch} {g : EG} {ad ta : Nat → Nat} {Rr : va_W} {σ σ' : CS} {r : Int32} {p0 : Int32} {p1 : Int32}  (h : f_FC_isPlace p0 p1 σ = some (r, σ')) (hφ2 : ph σ.2.2 ≤ BB) : CtI l g yX11_isPlace (.code yX11_isPlace cX11_isPlace 2 (some .boolean)) 1 22 ad ta Rr σ [.int p0, .int p1] r σ' := by
  refine Ct.of rfl (by decide) (Nat.le_of_ble_eq_true rfl) ?_
  intro p e s m args below meth c A C hr
  have hφ : ph σ.2.2 ≤ ph σ.2.2 := Nat.le_refl _
  refine nw_zero (ph σ.2.2) ?_
  show NI g p l e s m args below meth c A 1 22 2 ad Rr (ph σ.2.2) (r, σ') ta σ [(0, .int p0), (1, .int p1)] 0 []
  unfold f_FC_isPlace at h
  refine nw_iload_n C dX11_isPlace_0 rfl 0 rfl ?_
  refine nw_iconst (v := 0) C dX11_isPlace_1 (by decide) ?_
  refine nw_sipush (v := 999) C dX11_isPlace_2 (by decide) ?_
  refine nc_callSI  (As := [.int p0, .int 0, .int 999]) (rest := []) C h (fun _ _ e => c_FC_within e hφ2) tw_675 ks_X11_within ⟨Nat.le_of_ble_eq_true rfl, Nat.le_of_ble_eq_true rfl⟩ rfl dX11_isPlace_5 rfl (Nat.le_of_ble_eq_true rfl) hφ hφ2 (fun r5 σ5 ta h hφ hφ2 => ?_)
  refine nw_if_eq (tgt := 26) C dX11_isPlace_8 (by decide) h (fun _ h => ?_) (fun _ h => ?_)
  · refine nw_iconst (v := 0) C dX11_isPlace_26 (by decide) ?_
    exact nc_zret C hr (Or.inl rfl) dX11_isPlace_27 hφ hφ2 h
  · refine nw_iload_n C dX11_isPlace_11 rfl 1 rfl ?_
    refine nw_iconst (v := 0) C dX11_isPlace_12 (by decide) ?_
    refine nw_sipush (v := 999) C dX11_isPlace_13 (by decide) ?_
    refine nc_callSI  (As := [.int p1, .int 0, .int 999]) (rest := []) C h (fun _ _ e => c_FC_within e hφ2) tw_675 ks_X11_within ⟨Nat.le_of_ble_eq_true rfl, Nat.le_of_ble_eq_true rfl⟩ rfl dX11_isPlace_16 rfl (Nat.le_of_ble_eq_true rfl) hφ hφ2 (fun r16 σ16 ta h hφ hφ2 => ?_)
    refine nw_if_eq (tgt := 26) C dX11_isPlace_19 (by decide) h (fun _ h => ?_) (fun _ h => ?_)
    · refine nw_iconst (v := 0) C dX11_isPlace_26 (by decide) ?_
      exact nc_zret C hr (Or.inl rfl) dX11_isPlace_27 hφ hφ2 h
    · refine nw_iconst (v := 1) C dX11_isPlace_22 (by decide) ?_
      refine nw_goto (tgt := 27) C dX11_isPlace_23 (by decide) ?_
      exact nc_zret C hr (Or.inr rfl) dX11_isPlace_27 hφ hφ2 h
theorem dX11_isAct_0 : decode cX11_isAct 0 = .ok (.iload_n 0, 1) := by decide +kernel
theorem dX11_isAct_1 : decode cX11_isAct 1 = .ok (.iconst 0, 1) := by decide +kernel
theorem dX11_isAct_2 : decode cX11_isAct 2 = .ok (.iconst 5, 1) := by decide +kernel
theorem dX11_isAct_3 : decode cX11_isAct 3 = .ok (.invokestatic 92, 3) := by decide +kernel
theorem dX11_isAct_6 : decode cX11_isAct 6 = .ok (.ireturn, 1) := by decide +kernel
def f_FC_isAct (p0 : Int32) (σ : CS) : Option (Int32 × CS) := bnd (f_FC_within p0 0 5 σ) (fun r3 σ3 => grd (r3 = 0 ∨ r3 = 1) (some (r3, σ3)))
set_option maxHeartbeats 4000000 in
set_option maxRecDepth 100000 in
theorem c_FC_isAct {l : Launch} {g : EG} {ad ta : Nat → Nat} {Rr : va_W} {σ σ' : CS} {r : Int32} {p0 : Int32}  (h : f_FC_isAct p0 σ = some (r, σ')) (hφ2 : ph σ.2.2 ≤ BB) : CtI l g yX11_isAct (.code yX11_isAct cX11_isAct 1 (some .boolean)) 1 22 ad ta Rr σ [.int p0] r σ' := by
  refine Ct.of rfl (by decide) (Nat.le_of_ble_eq_true rfl) ?_
  intro p e s m args below meth c A C hr
  have hφ : ph σ.2.2 ≤ ph σ.2.2 := Nat.le_refl _
  refine nw_zero (ph σ.2.2) ?_
  show NI g p l e s m args below meth c A 1 22 1 ad Rr (ph σ.2.2) (r, σ') ta σ [(0, .int p0)] 0 []
  unfold f_FC_isAct at h
  refine nw_iload_n C dX11_isAct_0 rfl 0 rfl ?_
  refine nw_iconst (v := 0) C dX11_isAct_1 (by decide) ?_
  refine nw_iconst (v := 5) C dX11_isAct_2 (by decide) ?_
  refine nc_callSI  (As := [.int p0, .int 0, .int 5]) (rest := []) C h (fun _ _ e => c_FC_within e hφ2) tw_675 ks_X11_within ⟨Nat.le_of_ble_eq_true rfl, Nat.le_of_ble_eq_true rfl⟩ rfl dX11_isAct_3 rfl (Nat.le_of_ble_eq_true rfl) hφ hφ2 (fun r3 σ3 ta h hφ hφ2 => ?_)
  exact nc_zretg C hr dX11_isAct_6 hφ hφ2 h
theorem dX0_addClaim_0 : decode cX0_addClaim 0 = .ok (.aload_n 0, 1) := by decide +kernel
theorem dX0_addClaim_1 : decode cX0_addClaim 1 = .ok (.getfield 24, 3) := by decide +kernel
theorem dX0_addClaim_4 : decode cX0_addClaim 4 = .ok (.invokevirtual 31, 3) := by decide +kernel
theorem dX0_addClaim_7 : decode cX0_addClaim 7 = .ok (.istore 5, 2) := by decide +kernel
theorem dX0_addClaim_9 : decode cX0_addClaim 9 = .ok (.aload_n 0, 1) := by decide +kernel
theorem dX0_addClaim_10 : decode cX0_addClaim 10 = .ok (.getfield 24, 3) := by decide +kernel
theorem dX0_addClaim_13 : decode cX0_addClaim 13 = .ok (.iload 5, 2) := by decide +kernel
theorem dX0_addClaim_15 : decode cX0_addClaim 15 = .ok (.iconst 0, 1) := by decide +kernel
theorem dX0_addClaim_16 : decode cX0_addClaim 16 = .ok (.iload_n 1, 1) := by decide +kernel
theorem dX0_addClaim_17 : decode cX0_addClaim 17 = .ok (.invokevirtual 35, 3) := by decide +kernel
theorem dX0_addClaim_20 : decode cX0_addClaim 20 = .ok (.aload_n 0, 1) := by decide +kernel
theorem dX0_addClaim_21 : decode cX0_addClaim 21 = .ok (.getfield 24, 3) := by decide +kernel
theorem dX0_addClaim_24 : decode cX0_addClaim 24 = .ok (.iload 5, 2) := by decide +kernel
theorem dX0_addClaim_26 : decode cX0_addClaim 26 = .ok (.iconst 1, 1) := by decide +kernel
theorem dX0_addClaim_27 : decode cX0_addClaim 27 = .ok (.iload_n 2, 1) := by decide +kernel
theorem dX0_addClaim_28 : decode cX0_addClaim 28 = .ok (.invokevirtual 35, 3) := by decide +kernel
theorem dX0_addClaim_31 : decode cX0_addClaim 31 = .ok (.aload_n 0, 1) := by decide +kernel
theorem dX0_addClaim_32 : decode cX0_addClaim 32 = .ok (.getfield 24, 3) := by decide +kernel
theorem dX0_addClaim_35 : decode cX0_addClaim 35 = .ok (.iload 5, 2) := by decide +kernel
theorem dX0_addClaim_37 : decode cX0_addClaim 37 = .ok (.iconst 2, 1) := by decide +kernel
theorem dX0_addClaim_38 : decode cX0_addClaim 38 = .ok (.iload_n 3, 1) := by decide +kernel
theorem dX0_addClaim_39 : decode cX0_addClaim 39 = .ok (.invokevirtual 35, 3) := by decide +kernel
theorem dX0_addClaim_42 : decode cX0_addClaim 42 = .ok (.aload_n 0, 1) := by decide +kernel
theorem dX0_addClaim_43 : decode cX0_addClaim 43 = .ok (.getfield 24, 3) := by decide +kernel
theorem dX0_addClaim_46 : decode cX0_addClaim 46 = .ok (.iload 5, 2) := by decide +kernel
theorem dX0_addClaim_48 : decode cX0_addClaim 48 = .ok (.iconst 3, 1) := by decide +kernel
theorem dX0_addClaim_49 : decode cX0_addClaim 49 = .ok (.iload 4, 2) := by decide +kernel
theorem dX0_addClaim_51 : decode cX0_addClaim 51 = .ok (.invokevirtual 35, 3) := by decide +kernel
theorem dX0_addClaim_54 : decode cX0_addClaim 54 = .ok (.aload_n 0, 1) := by decide +kernel
theorem dX0_addClaim_55 : decode cX0_addClaim 55 = .ok (.getfield 24, 3) := by decide +kernel
theorem dX0_addClaim_58 : decode cX0_addClaim 58 = .ok (.iload 5, 2) := by decide +kernel
theorem dX0_addClaim_60 : decode cX0_addClaim 60 = .ok (.iconst 4, 1) := by decide +kernel
theorem dX0_addClaim_61 : decode cX0_addClaim 61 = .ok (.iconst 0, 1) := by decide +kernel
theorem dX0_addClaim_62 : decode cX0_addClaim 62 = .ok (.invokevirtual 35, 3) := by decide +kernel
theorem dX0_addClaim_65 : decode cX0_addClaim 65 = .ok (.iload 5, 2) := by decide +kernel
theorem dX0_addClaim_67 : decode cX0_addClaim 67 = .ok (.ireturn, 1) := by decide +kernel
def f_Claims_addClaim (p0 : Int32) (p1 : Int32) (p2 : Int32) (p3 : Int32) (σ : CS) : Option (Int32 × CS) := bnd (f_Table_add 7 σ) (fun r4 σ4 => bnd (f_Table_put 7 r4 0 p0 σ4) (fun _ σ17 => bnd (f_Table_put 7 r4 1 p1 σ17) (fun _ σ28 => bnd (f_Table_put 7 r4 2 p2 σ28) (fun _ σ39 => bnd (f_Table_put 7 r4 3 p3 σ39) (fun _ σ51 => bnd (f_Table_put 7 r4 4 0 σ51) (fun _ σ62 => some (r4, σ62)))))))
set_option maxHeartbeats 4000000 in
set_option maxRecDepth 100000 in
theorem c_Claims_addClaim {l : Launch} {g : EG} {ad ta : Nat → Nat} {Rr : va_W} {σ σ' : CS} {r : Int32} {p0 : Int32} {p1 : Int32} {p2 : Int32} {p3 : Int32}  (h : f_Claims_addClaim p0 p1 p2 p3 σ = some (r, σ')) (hφ2 : ph σ.2.2 ≤ BB) : CtI l g yX0_addClaim (.code yX0_addClaim cX0_addClaim 6 (some .int)) 5 222 ad ta Rr σ [.ref (ad 6), .int p0, .int p1, .int p2, .int p3] r σ' := by
  refine Ct.of rfl (by decide) (Nat.le_of_ble_eq_true rfl) ?_
  intro p e s m args below meth c A C hr
  have hφ : ph σ.2.2 ≤ ph σ.2.2 := Nat.le_refl _
  refine nw_zero (ph σ.2.2) ?_
  show NI g p l e s m args below meth c A 5 222 6 ad Rr (ph σ.2.2) (r, σ') ta σ [(0, .ref (ad 6)), (1, .int p0), (2, .int p1), (3, .int p2), (4, .int p3)] 0 []
  unfold f_Claims_addClaim at h
  refine nw_aload_n C dX0_addClaim_0 rfl 0 rfl ?_
  refine nw_get (v := .ref (ad 18)) C in_X0 6 cl_Claims rfl 0 (by decide) tw_326 rfl rfl dX0_addClaim_1 ?_
  refine nc_callVI (q0 := 18) (As := []) (rest := []) C h (fun _ _ e => c_Table_add 7 (by decide) e hφ2) tw_1424 kv_X9_add (cl_T 7 (by decide)) rfl ⟨Nat.le_of_ble_eq_true rfl, Nat.le_of_ble_eq_true rfl⟩ rfl dX0_addClaim_4 rfl (Nat.le_of_ble_eq_true rfl) hφ hφ2 (fun r4 σ4 ta h hφ hφ2 => ?_)
  refine nw_istore (lv' := [(5, .int r4), (0, .ref (ad 6)), (1, .int p0), (2, .int p1), (3, .int p2), (4, .int p3)]) C dX0_addClaim_7 (by decide) rfl ?_
  refine nw_aload_n C dX0_addClaim_9 rfl 1 rfl ?_
  refine nw_get (v := .ref (ad 18)) C in_X0 6 cl_Claims rfl 0 (by decide) tw_326 rfl rfl dX0_addClaim_10 ?_
  refine nw_iload C dX0_addClaim_13 0 rfl ?_
  refine nw_iconst (v := 0) C dX0_addClaim_15 (by decide) ?_
  refine nw_iload_n C dX0_addClaim_16 rfl 2 rfl ?_
  refine nc_callVV (q0 := 18) (As := [.int r4, .int 0, .int p0]) (rest := []) C h (fun _ _ e => c_Table_put 7 (by decide) e hφ2) tw_1425 kv_X9_put (cl_T 7 (by decide)) rfl ⟨Nat.le_of_ble_eq_true rfl, Nat.le_of_ble_eq_true rfl⟩ rfl dX0_addClaim_17 rfl (Nat.le_of_ble_eq_true rfl) hφ hφ2 (fun r17 σ17 ta h hφ hφ2 => ?_)
  refine nw_aload_n C dX0_addClaim_20 rfl 1 rfl ?_
  refine nw_get (v := .ref (ad 18)) C in_X0 6 cl_Claims rfl 0 (by decide) tw_326 rfl rfl dX0_addClaim_21 ?_
  refine nw_iload C dX0_addClaim_24 0 rfl ?_
  refine nw_iconst (v := 1) C dX0_addClaim_26 (by decide) ?_
  refine nw_iload_n C dX0_addClaim_27 rfl 3 rfl ?_
  refine nc_callVV (q0 := 18) (As := [.int r4, .int 1, .int p1]) (rest := []) C h (fun _ _ e => c_Table_put 7 (by decide) e hφ2) tw_1425 kv_X9_put (cl_T 7 (by decide)) rfl ⟨Nat.le_of_ble_eq_true rfl, Nat.le_of_ble_eq_true rfl⟩ rfl dX0_addClaim_28 rfl (Nat.le_of_ble_eq_true rfl) hφ hφ2 (fun r28 σ28 ta h hφ hφ2 => ?_)
  refine nw_aload_n C dX0_addClaim_31 rfl 1 rfl ?_
  refine nw_get (v := .ref (ad 18)) C in_X0 6 cl_Claims rfl 0 (by decide) tw_326 rfl rfl dX0_addClaim_32 ?_
  refine nw_iload C dX0_addClaim_35 0 rfl ?_
  refine nw_iconst (v := 2) C dX0_addClaim_37 (by decide) ?_
  refine nw_iload_n C dX0_addClaim_38 rfl 4 rfl ?_
  refine nc_callVV (q0 := 18) (As := [.int r4, .int 2, .int p2]) (rest := []) C h (fun _ _ e => c_Table_put 7 (by decide) e hφ2) tw_1425 kv_X9_put (cl_T 7 (by decide)) rfl ⟨Nat.le_of_ble_eq_true rfl, Nat.le_of_ble_eq_true rfl⟩ rfl dX0_addClaim_39 rfl (Nat.le_of_ble_eq_true rfl) hφ hφ2 (fun r39 σ39 ta h hφ hφ2 => ?_)
  refine nw_aload_n C dX0_addClaim_42 rfl 1 rfl ?_
  refine nw_get (v := .ref (ad 18)) C in_X0 6 cl_Claims rfl 0 (by decide) tw_326 rfl rfl dX0_addClaim_43 ?_
  refine nw_iload C dX0_addClaim_46 0 rfl ?_
  refine nw_iconst (v := 3) C dX0_addClaim_48 (by decide) ?_
  refine nw_iload C dX0_addClaim_49 5 rfl ?_
  refine nc_callVV (q0 := 18) (As := [.int r4, .int 3, .int p3]) (rest := []) C h (fun _ _ e => c_Table_put 7 (by decide) e hφ2) tw_1425 kv_X9_put (cl_T 7 (by decide)) rfl ⟨Nat.le_of_ble_eq_true rfl, Nat.le_of_ble_eq_true rfl⟩ rfl dX0_addClaim_51 rfl (Nat.le_of_ble_eq_true rfl) hφ hφ2 (fun r51 σ51 ta h hφ hφ2 => ?_)
  refine nw_aload_n C dX0_addClaim_54 rfl 1 rfl ?_
  refine nw_get (v := .ref (ad 18)) C in_X0 6 cl_Claims rfl 0 (by decide) tw_326 rfl rfl dX0_addClaim_55 ?_
  refine nw_iload C dX0_addClaim_58 0 rfl ?_
  refine nw_iconst (v := 4) C dX0_addClaim_60 (by decide) ?_
  refine nw_iconst (v := 0) C dX0_addClaim_61 (by decide) ?_
  refine nc_callVV (q0 := 18) (As := [.int r4, .int 4, .int 0]) (rest := []) C h (fun _ _ e => c_Table_put 7 (by decide) e hφ2) tw_1425 kv_X9_put (cl_T 7 (by decide)) rfl ⟨Nat.le_of_ble_eq_true rfl, Nat.le_of_ble_eq_true rfl⟩ rfl dX0_addClaim_62 rfl (Nat.le_of_ble_eq_true rfl) hφ hφ2 (fun r62 σ62 ta h hφ hφ2 => ?_)
  refine nw_iload C dX0_addClaim_65 0 rfl ?_
  exact nc_iret C hr dX0_addClaim_67 hφ hφ2 h
theorem dX0_addEvent_0 : decode cX0_addEvent 0 = .ok (.aload_n 0, 1) := by decide +kernel
theorem dX0_addEvent_1 : decode cX0_addEvent 1 = .ok (.getfield 24, 3) := by decide +kernel
theorem dX0_addEvent_4 : decode cX0_addEvent 4 = .ok (.iload_n 1, 1) := by decide +kernel
theorem dX0_addEvent_5 : decode cX0_addEvent 5 = .ok (.iconst 4, 1) := by decide +kernel
theorem dX0_addEvent_6 : decode cX0_addEvent 6 = .ok (.invokevirtual 39, 3) := by decide +kernel
theorem dX0_addEvent_9 : decode cX0_addEvent 9 = .ok (.bipush 60, 2) := by decide +kernel
theorem dX0_addEvent_11 : decode cX0_addEvent 11 = .ok (.if_icmp .lt 5, 3) := by decide +kernel
theorem dX0_addEvent_14 : decode cX0_addEvent 14 = .ok (.iconst (-1), 1) := by decide +kernel
theorem dX0_addEvent_15 : decode cX0_addEvent 15 = .ok (.ireturn, 1) := by decide +kernel
theorem dX0_addEvent_16 : decode cX0_addEvent 16 = .ok (.aload_n 0, 1) := by decide +kernel
theorem dX0_addEvent_17 : decode cX0_addEvent 17 = .ok (.getfield 28, 3) := by decide +kernel
theorem dX0_addEvent_20 : decode cX0_addEvent 20 = .ok (.invokevirtual 31, 3) := by decide +kernel
theorem dX0_addEvent_23 : decode cX0_addEvent 23 = .ok (.istore 4, 2) := by decide +kernel
theorem dX0_addEvent_25 : decode cX0_addEvent 25 = .ok (.aload_n 0, 1) := by decide +kernel
theorem dX0_addEvent_26 : decode cX0_addEvent 26 = .ok (.getfield 28, 3) := by decide +kernel
theorem dX0_addEvent_29 : decode cX0_addEvent 29 = .ok (.iload 4, 2) := by decide +kernel
theorem dX0_addEvent_31 : decode cX0_addEvent 31 = .ok (.iconst 0, 1) := by decide +kernel
theorem dX0_addEvent_32 : decode cX0_addEvent 32 = .ok (.iload_n 1, 1) := by decide +kernel
theorem dX0_addEvent_33 : decode cX0_addEvent 33 = .ok (.invokevirtual 35, 3) := by decide +kernel
theorem dX0_addEvent_36 : decode cX0_addEvent 36 = .ok (.aload_n 0, 1) := by decide +kernel
theorem dX0_addEvent_37 : decode cX0_addEvent 37 = .ok (.getfield 28, 3) := by decide +kernel
theorem dX0_addEvent_40 : decode cX0_addEvent 40 = .ok (.iload 4, 2) := by decide +kernel
theorem dX0_addEvent_42 : decode cX0_addEvent 42 = .ok (.iconst 1, 1) := by decide +kernel
theorem dX0_addEvent_43 : decode cX0_addEvent 43 = .ok (.iload_n 2, 1) := by decide +kernel
theorem dX0_addEvent_44 : decode cX0_addEvent 44 = .ok (.invokevirtual 35, 3) := by decide +kernel
theorem dX0_addEvent_47 : decode cX0_addEvent 47 = .ok (.aload_n 0, 1) := by decide +kernel
theorem dX0_addEvent_48 : decode cX0_addEvent 48 = .ok (.getfield 28, 3) := by decide +kernel
theorem dX0_addEvent_51 : decode cX0_addEvent 51 = .ok (.iload 4, 2) := by decide +kernel
theorem dX0_addEvent_53 : decode cX0_addEvent 53 = .ok (.iconst 2, 1) := by decide +kernel
theorem dX0_addEvent_54 : decode cX0_addEvent 54 = .ok (.iload_n 3, 1) := by decide +kernel
theorem dX0_addEvent_55 : decode cX0_addEvent 55 = .ok (.invokevirtual 35, 3) := by decide +kernel
theorem dX0_addEvent_58 : decode cX0_addEvent 58 = .ok (.aload_n 0, 1) := by decide +kernel
theorem dX0_addEvent_59 : decode cX0_addEvent 59 = .ok (.getfield 24, 3) := by decide +kernel
theorem dX0_addEvent_62 : decode cX0_addEvent 62 = .ok (.iload_n 1, 1) := by decide +kernel
theorem dX0_addEvent_63 : decode cX0_addEvent 63 = .ok (.iconst 4, 1) := by decide +kernel
theorem dX0_addEvent_64 : decode cX0_addEvent 64 = .ok (.iconst 1, 1) := by decide +kernel
theorem dX0_addEvent_65 : decode cX0_addEvent 65 = .ok (.invokevirtual 43, 3) := by decide +kernel
theorem dX0_addEvent_68 : decode cX0_addEvent 68 = .ok (.ireturn, 1) := by decide +kernel
def f_Claims_addEvent (p0 : Int32) (p1 : Int32) (p2 : Int32) (σ : CS) : Option (Int32 × CS) := bnd (f_Table_get 7 p0 4 σ) (fun r6 σ6 => if r6 < 60 then bnd (f_Table_add 8 σ6) (fun r20 σ20 => bnd (f_Table_put 8 r20 0 p0 σ20) (fun _ σ33 => bnd (f_Table_put 8 r20 1 p1 σ33) (fun _ σ44 => bnd (f_Table_put 8 r20 2 p2 σ44) (fun _ σ55 => bnd (f_Table_raise 7 p0 4 1 σ55) (fun r65 σ65 => some (r65, σ65)))))) else some ((-1), σ6))
set_option maxHeartbeats 4000000 in
set_option maxRecDepth 100000 in
theorem c_Claims_addEvent {l : Launch} {g : EG} {ad ta : Nat → Nat} {Rr : va_W} {σ σ' : CS} {r : Int32} {p0 : Int32} {p1 : Int32} {p2 : Int32}  (h : f_Claims_addEvent p0 p1 p2 σ = some (r, σ')) (hφ2 : ph σ.2.2 ≤ BB) : CtI l g yX0_addEvent (.code yX0_addEvent cX0_addEvent 5 (some .int)) 5 222 ad ta Rr σ [.ref (ad 6), .int p0, .int p1, .int p2] r σ' := by
  refine Ct.of rfl (by decide) (Nat.le_of_ble_eq_true rfl) ?_
  intro p e s m args below meth c A C hr
  have hφ : ph σ.2.2 ≤ ph σ.2.2 := Nat.le_refl _
  refine nw_zero (ph σ.2.2) ?_
  show NI g p l e s m args below meth c A 5 222 5 ad Rr (ph σ.2.2) (r, σ') ta σ [(0, .ref (ad 6)), (1, .int p0), (2, .int p1), (3, .int p2)] 0 []
  unfold f_Claims_addEvent at h
  refine nw_aload_n C dX0_addEvent_0 rfl 0 rfl ?_
  refine nw_get (v := .ref (ad 18)) C in_X0 6 cl_Claims rfl 0 (by decide) tw_326 rfl rfl dX0_addEvent_1 ?_
  refine nw_iload_n C dX0_addEvent_4 rfl 1 rfl ?_
  refine nw_iconst (v := 4) C dX0_addEvent_5 (by decide) ?_
  refine nc_callVI (q0 := 18) (As := [.int p0, .int 4]) (rest := []) C h (fun _ _ e => c_Table_get 7 (by decide) e hφ2) tw_1343 kv_X9_get (cl_T 7 (by decide)) rfl ⟨Nat.le_of_ble_eq_true rfl, Nat.le_of_ble_eq_true rfl⟩ rfl dX0_addEvent_6 rfl (Nat.le_of_ble_eq_true rfl) hφ hφ2 (fun r6 σ6 ta h hφ hφ2 => ?_)
  refine nw_bipush (v := 60) C dX0_addEvent_9 (by decide) ?_
  refine nw_icmp_lt (tgt := 16) C dX0_addEvent_11 (by decide) h (fun _ h => ?_) (fun _ h => ?_)
  · refine nw_aload_n C dX0_addEvent_16 rfl 0 rfl ?_
    refine nw_get (v := .ref (ad 19)) C in_X0 6 cl_Claims rfl 1 (by decide) tw_328 rfl rfl dX0_addEvent_17 ?_
    refine nc_callVI (q0 := 19) (As := []) (rest := []) C h (fun _ _ e => c_Table_add 8 (by decide) e hφ2) tw_1424 kv_X9_add (cl_T 8 (by decide)) rfl ⟨Nat.le_of_ble_eq_true rfl, Nat.le_of_ble_eq_true rfl⟩ rfl dX0_addEvent_20 rfl (Nat.le_of_ble_eq_true rfl) hφ hφ2 (fun r20 σ20 ta h hφ hφ2 => ?_)
    refine nw_istore (lv' := [(4, .int r20), (0, .ref (ad 6)), (1, .int p0), (2, .int p1), (3, .int p2)]) C dX0_addEvent_23 (by decide) rfl ?_
    refine nw_aload_n C dX0_addEvent_25 rfl 1 rfl ?_
    refine nw_get (v := .ref (ad 19)) C in_X0 6 cl_Claims rfl 1 (by decide) tw_328 rfl rfl dX0_addEvent_26 ?_
    refine nw_iload C dX0_addEvent_29 0 rfl ?_
    refine nw_iconst (v := 0) C dX0_addEvent_31 (by decide) ?_
    refine nw_iload_n C dX0_addEvent_32 rfl 2 rfl ?_
    refine nc_callVV (q0 := 19) (As := [.int r20, .int 0, .int p0]) (rest := []) C h (fun _ _ e => c_Table_put 8 (by decide) e hφ2) tw_1425 kv_X9_put (cl_T 8 (by decide)) rfl ⟨Nat.le_of_ble_eq_true rfl, Nat.le_of_ble_eq_true rfl⟩ rfl dX0_addEvent_33 rfl (Nat.le_of_ble_eq_true rfl) hφ hφ2 (fun r33 σ33 ta h hφ hφ2 => ?_)
    refine nw_aload_n C dX0_addEvent_36 rfl 1 rfl ?_
    refine nw_get (v := .ref (ad 19)) C in_X0 6 cl_Claims rfl 1 (by decide) tw_328 rfl rfl dX0_addEvent_37 ?_
    refine nw_iload C dX0_addEvent_40 0 rfl ?_
    refine nw_iconst (v := 1) C dX0_addEvent_42 (by decide) ?_
    refine nw_iload_n C dX0_addEvent_43 rfl 3 rfl ?_
    refine nc_callVV (q0 := 19) (As := [.int r20, .int 1, .int p1]) (rest := []) C h (fun _ _ e => c_Table_put 8 (by decide) e hφ2) tw_1425 kv_X9_put (cl_T 8 (by decide)) rfl ⟨Nat.le_of_ble_eq_true rfl, Nat.le_of_ble_eq_true rfl⟩ rfl dX0_addEvent_44 rfl (Nat.le_of_ble_eq_true rfl) hφ hφ2 (fun r44 σ44 ta h hφ hφ2 => ?_)
    refine nw_aload_n C dX0_addEvent_47 rfl 1 rfl ?_
    refine nw_get (v := .ref (ad 19)) C in_X0 6 cl_Claims rfl 1 (by decide) tw_328 rfl rfl dX0_addEvent_48 ?_
    refine nw_iload C dX0_addEvent_51 0 rfl ?_
    refine nw_iconst (v := 2) C dX0_addEvent_53 (by decide) ?_
    refine nw_iload_n C dX0_addEvent_54 rfl 4 rfl ?_
    refine nc_callVV (q0 := 19) (As := [.int r20, .int 2, .int p2]) (rest := []) C h (fun _ _ e => c_Table_put 8 (by decide) e hφ2) tw_1425 kv_X9_put (cl_T 8 (by decide)) rfl ⟨Nat.le_of_ble_eq_true rfl, Nat.le_of_ble_eq_true rfl⟩ rfl dX0_addEvent_55 rfl (Nat.le_of_ble_eq_true rfl) hφ hφ2 (fun r55 σ55 ta h hφ hφ2 => ?_)
    refine nw_aload_n C dX0_addEvent_58 rfl 1 rfl ?_
    refine nw_get (v := .ref (ad 18)) C in_X0 6 cl_Claims rfl 0 (by decide) tw_326 rfl rfl dX0_addEvent_59 ?_
    refine nw_iload_n C dX0_addEvent_62 rfl 2 rfl ?_
    refine nw_iconst (v := 4) C dX0_addEvent_63 (by decide) ?_
    refine nw_iconst (v := 1) C dX0_addEvent_64 (by decide) ?_
    refine nc_callVI (q0 := 18) (As := [.int p0, .int 4, .int 1]) (rest := []) C h (fun _ _ e => c_Table_raise 7 (by decide) e hφ2) tw_1437 kv_X9_raise (cl_T 7 (by decide)) rfl ⟨Nat.le_of_ble_eq_true rfl, Nat.le_of_ble_eq_true rfl⟩ rfl dX0_addEvent_65 rfl (Nat.le_of_ble_eq_true rfl) hφ hφ2 (fun r65 σ65 ta h hφ hφ2 => ?_)
    exact nc_iret C hr dX0_addEvent_68 hφ hφ2 h
  · refine nw_iconst (v := (-1)) C dX0_addEvent_14 (by decide) ?_
    exact nc_iret C hr dX0_addEvent_15 hφ hφ2 h
theorem dX3_forceOn_0 : decode cX3_forceOn 0 = .ok (.iconst 0, 1) := by decide +kernel
theorem dX3_forceOn_1 : decode cX3_forceOn 1 = .ok (.istore_n 2, 1) := by decide +kernel
theorem dX3_forceOn_2 : decode cX3_forceOn 2 = .ok (.iconst 0, 1) := by decide +kernel
theorem dX3_forceOn_3 : decode cX3_forceOn 3 = .ok (.istore_n 3, 1) := by decide +kernel
theorem dX3_forceOn_4 : decode cX3_forceOn 4 = .ok (.aload_n 0, 1) := by decide +kernel
theorem dX3_forceOn_5 : decode cX3_forceOn 5 = .ok (.getfield 16, 3) := by decide +kernel
theorem dX3_forceOn_8 : decode cX3_forceOn 8 = .ok (.invokevirtual 53, 3) := by decide +kernel
theorem dX3_forceOn_11 : decode cX3_forceOn 11 = .ok (.iconst 1, 1) := by decide +kernel
theorem dX3_forceOn_12 : decode cX3_forceOn 12 = .ok (.isub, 1) := by decide +kernel
theorem dX3_forceOn_13 : decode cX3_forceOn 13 = .ok (.istore 4, 2) := by decide +kernel
theorem dX3_forceOn_15 : decode cX3_forceOn 15 = .ok (.iload 4, 2) := by decide +kernel
theorem dX3_forceOn_17 : decode cX3_forceOn 17 = .ok (.ifCond .lt 52, 3) := by decide +kernel
theorem dX3_forceOn_20 : decode cX3_forceOn 20 = .ok (.aload_n 0, 1) := by decide +kernel
theorem dX3_forceOn_21 : decode cX3_forceOn 21 = .ok (.getfield 16, 3) := by decide +kernel
theorem dX3_forceOn_24 : decode cX3_forceOn 24 = .ok (.iload 4, 2) := by decide +kernel
theorem dX3_forceOn_26 : decode cX3_forceOn 26 = .ok (.iconst 0, 1) := by decide +kernel
theorem dX3_forceOn_27 : decode cX3_forceOn 27 = .ok (.invokevirtual 86, 3) := by decide +kernel
theorem dX3_forceOn_30 : decode cX3_forceOn 30 = .ok (.iload_n 1, 1) := by decide +kernel
theorem dX3_forceOn_31 : decode cX3_forceOn 31 = .ok (.if_icmp .gt 32, 3) := by decide +kernel
theorem dX3_forceOn_34 : decode cX3_forceOn 34 = .ok (.iload_n 3, 1) := by decide +kernel
theorem dX3_forceOn_35 : decode cX3_forceOn 35 = .ok (.iload 4, 2) := by decide +kernel
theorem dX3_forceOn_37 : decode cX3_forceOn 37 = .ok (.ishr, 1) := by decide +kernel
theorem dX3_forceOn_38 : decode cX3_forceOn 38 = .ok (.iconst 1, 1) := by decide +kernel
theorem dX3_forceOn_39 : decode cX3_forceOn 39 = .ok (.iand, 1) := by decide +kernel
theorem dX3_forceOn_40 : decode cX3_forceOn 40 = .ok (.ifCond .ne 23, 3) := by decide +kernel
theorem dX3_forceOn_43 : decode cX3_forceOn 43 = .ok (.iload_n 2, 1) := by decide +kernel
theorem dX3_forceOn_44 : decode cX3_forceOn 44 = .ok (.iconst 1, 1) := by decide +kernel
theorem dX3_forceOn_45 : decode cX3_forceOn 45 = .ok (.iload 4, 2) := by decide +kernel
theorem dX3_forceOn_47 : decode cX3_forceOn 47 = .ok (.ishl, 1) := by decide +kernel
theorem dX3_forceOn_48 : decode cX3_forceOn 48 = .ok (.ior, 1) := by decide +kernel
theorem dX3_forceOn_49 : decode cX3_forceOn 49 = .ok (.istore_n 2, 1) := by decide +kernel
theorem dX3_forceOn_50 : decode cX3_forceOn 50 = .ok (.iload_n 3, 1) := by decide +kernel
theorem dX3_forceOn_51 : decode cX3_forceOn 51 = .ok (.aload_n 0, 1) := by decide +kernel
theorem dX3_forceOn_52 : decode cX3_forceOn 52 = .ok (.getfield 16, 3) := by decide +kernel
theorem dX3_forceOn_55 : decode cX3_forceOn 55 = .ok (.iload 4, 2) := by decide +kernel
theorem dX3_forceOn_57 : decode cX3_forceOn 57 = .ok (.iconst 1, 1) := by decide +kernel
theorem dX3_forceOn_58 : decode cX3_forceOn 58 = .ok (.invokevirtual 86, 3) := by decide +kernel
theorem dX3_forceOn_61 : decode cX3_forceOn 61 = .ok (.ior, 1) := by decide +kernel
theorem dX3_forceOn_62 : decode cX3_forceOn 62 = .ok (.istore_n 3, 1) := by decide +kernel
theorem dX3_forceOn_63 : decode cX3_forceOn 63 = .ok (.iinc 4 (-1), 3) := by decide +kernel
theorem dX3_forceOn_66 : decode cX3_forceOn 66 = .ok (.goto (-51), 3) := by decide +kernel
theorem dX3_forceOn_69 : decode cX3_forceOn 69 = .ok (.iload_n 2, 1) := by decide +kernel
theorem dX3_forceOn_70 : decode cX3_forceOn 70 = .ok (.ireturn, 1) := by decide +kernel
def L_Laws_forceOn_15  (x1 : Int32) : Nat → Int32 → Int32 → Int32 → CS → Option (Int32 × CS)
  | 0, _, _, _, _ => none
  | n + 1, x2, x3, x4, σ => if x4 < 0 then some (x2, σ) else bnd (f_Table_get 3 x4 0 σ) (fun r27 σ27 => if x1 < r27 then (L_Laws_forceOn_15 x1 n) x2 x3 (x4 + (-1)) σ27 else if ((x3 >>> (x4 &&& 31)) &&& 1) = 0 then bnd (f_Table_get 3 x4 1 σ27) (fun r58 σ58 => (L_Laws_forceOn_15 x1 n) (x2 ||| ((1 : Int32) <<< (x4 &&& 31))) (x3 ||| r58) (x4 + (-1)) σ58) else (L_Laws_forceOn_15 x1 n) x2 x3 (x4 + (-1)) σ27)
set_option maxHeartbeats 4000000 in
set_option maxRecDepth 100000 in
theorem w_Laws_forceOn_15 (C : Cx g p s m args meth c A 5 cX3_forceOn yX3_forceOn.cls) (hr : meth.sig.returnType = (some .int))  {res : Int32 × CS}  (x1 : Int32)  : ∀ (n : Nat) (x2 : Int32) (x3 : Int32) (x4 : Int32) (σ : CS) (ta : Nat → Nat), φ0 ≤ ph σ.2.2 → ph σ.2.2 ≤ BB → L_Laws_forceOn_15 x1 n x2 x3 x4 σ = some res → NI g p l e s m args below meth c A 1 23 5 ad Rr φ0 res ta σ [(0, .ref (ad 3)), (1, .int x1), (2, .int x2), (3, .int x3), (4, .int x4)] 15 [] := by
  intro n
  induction n with
  | zero =>
    intro x2 x3 x4 σ ta hφ hφ2 h
    exact absurd (show (none : Option (Int32 × CS)) = some res from h) (by intro h9; cases h9)
  | succ n ih =>
    intro x2 x3 x4 σ ta hφ hφ2 h
    rw [L_Laws_forceOn_15] at h
    refine nw_iload C dX3_forceOn_15 4 rfl ?_
    refine nw_if_lt (tgt := 69) C dX3_forceOn_17 (by decide) h (fun _ h => ?_) (fun _ h => ?_)
    · refine nw_iload_n C dX3_forceOn_69 rfl 2 rfl ?_
      exact nc_iret C hr dX3_forceOn_70 hφ hφ2 h
    · refine nw_aload_n C dX3_forceOn_20 rfl 0 rfl ?_
      refine nw_get (v := .ref (ad 14)) C in_X3 3 cl_Laws rfl 0 (by decide) tw_276 rfl rfl dX3_forceOn_21 ?_
      refine nw_iload C dX3_forceOn_24 4 rfl ?_
      refine nw_iconst (v := 0) C dX3_forceOn_26 (by decide) ?_
      refine nc_callVI (q0 := 14) (As := [.int x4, .int 0]) (rest := []) C h (fun _ _ e => c_Table_get 3 (by decide) e hφ2) tw_789 kv_X9_get (cl_T 3 (by decide)) rfl ⟨Nat.le_of_ble_eq_true rfl, Nat.le_of_ble_eq_true rfl⟩ rfl dX3_forceOn_27 rfl (Nat.le_of_ble_eq_true rfl) hφ hφ2 (fun r27 σ27 ta h hφ hφ2 => ?_)
      refine nw_iload_n C dX3_forceOn_30 rfl 1 rfl ?_
      refine nw_icmp_gt (tgt := 63) C dX3_forceOn_31 (by decide) h (fun _ h => ?_) (fun _ h => ?_)
      · refine nw_iinc (lv' := [(4, .int (x4 + (-1))), (0, .ref (ad 3)), (1, .int x1), (2, .int x2), (3, .int x3)]) C (x4 + (-1)) dX3_forceOn_63 4 rfl rfl (by decide) rfl ?_
        refine nw_goto (tgt := 15) C dX3_forceOn_66 (by decide) ?_
        exact nw_lv (lv' := [(0, .ref (ad 3)), (1, .int x1), (2, .int x2), (3, .int x3), (4, .int (x4 + (-1)))]) [1, 2, 3, 4, 0] rfl (ih x2 x3 (x4 + (-1)) _ _ hφ hφ2 h)
      · refine nw_iload_n C dX3_forceOn_34 rfl 3 rfl ?_
        refine nw_iload C dX3_forceOn_35 4 rfl ?_
        refine nw_ishr C dX3_forceOn_37 ?_
        refine nw_iconst (v := 1) C dX3_forceOn_38 (by decide) ?_
        refine nw_iand C dX3_forceOn_39 ?_
        refine nw_if_ne (tgt := 63) C dX3_forceOn_40 (by decide) h (fun _ h => ?_) (fun _ h => ?_)
        · refine nw_iload_n C dX3_forceOn_43 rfl 2 rfl ?_
          refine nw_iconst (v := 1) C dX3_forceOn_44 (by decide) ?_
          refine nw_iload C dX3_forceOn_45 4 rfl ?_
          refine nw_ishl C dX3_forceOn_47 ?_
          refine nw_ior C dX3_forceOn_48 ?_
          refine nw_istore_n (lv' := [(2, .int (x2 ||| ((1 : Int32) <<< (x4 &&& 31)))), (0, .ref (ad 3)), (1, .int x1), (3, .int x3), (4, .int x4)]) C dX3_forceOn_49 rfl (by decide) rfl ?_
          refine nw_iload_n C dX3_forceOn_50 rfl 3 rfl ?_
          refine nw_aload_n C dX3_forceOn_51 rfl 1 rfl ?_
          refine nw_get (v := .ref (ad 14)) C in_X3 3 cl_Laws rfl 0 (by decide) tw_276 rfl rfl dX3_forceOn_52 ?_
          refine nw_iload C dX3_forceOn_55 4 rfl ?_
          refine nw_iconst (v := 1) C dX3_forceOn_57 (by decide) ?_
          refine nc_callVI (q0 := 14) (As := [.int x4, .int 1]) (rest := [.int x3]) C h (fun _ _ e => c_Table_get 3 (by decide) e hφ2) tw_789 kv_X9_get (cl_T 3 (by decide)) rfl ⟨Nat.le_of_ble_eq_true rfl, Nat.le_of_ble_eq_true rfl⟩ rfl dX3_forceOn_58 rfl (Nat.le_of_ble_eq_true rfl) hφ hφ2 (fun r58 σ58 ta h hφ hφ2 => ?_)
          refine nw_ior C dX3_forceOn_61 ?_
          refine nw_istore_n (lv' := [(3, .int (x3 ||| r58)), (2, .int (x2 ||| ((1 : Int32) <<< (x4 &&& 31)))), (0, .ref (ad 3)), (1, .int x1), (4, .int x4)]) C dX3_forceOn_62 rfl (by decide) rfl ?_
          refine nw_iinc (lv' := [(4, .int (x4 + (-1))), (3, .int (x3 ||| r58)), (2, .int (x2 ||| ((1 : Int32) <<< (x4 &&& 31)))), (0, .ref (ad 3)), (1, .int x1)]) C (x4 + (-1)) dX3_forceOn_63 4 rfl rfl (by decide) rfl ?_
          refine nw_goto (tgt := 15) C dX3_forceOn_66 (by decide) ?_
          exact nw_lv (lv' := [(0, .ref (ad 3)), (1, .int x1), (2, .int (x2 ||| ((1 : Int32) <<< (x4 &&& 31)))), (3, .int (x3 ||| r58)), (4, .int (x4 + (-1)))]) [3, 4, 2, 1, 0] rfl (ih (x2 ||| ((1 : Int32) <<< (x4 &&& 31))) (x3 ||| r58) (x4 + (-1)) _ _ hφ hφ2 h)
        · refine nw_iinc (lv' := [(4, .int (x4 + (-1))), (0, .ref (ad 3)), (1, .int x1), (2, .int x2), (3, .int x3)]) C (x4 + (-1)) dX3_forceOn_63 4 rfl rfl (by decide) rfl ?_
          refine nw_goto (tgt := 15) C dX3_forceOn_66 (by decide) ?_
          exact nw_lv (lv' := [(0, .ref (ad 3)), (1, .int x1), (2, .int x2), (3, .int x3), (4, .int (x4 + (-1)))]) [1, 2, 3, 4, 0] rfl (ih x2 x3 (x4 + (-1)) _ _ hφ hφ2 h)
def f_Laws_forceOn (p0 : Int32) (σ : CS) : Option (Int32 × CS) := bnd (f_Table_size 3 σ) (fun r8 σ8 => L_Laws_forceOn_15 p0 FU 0 0 (r8 - 1) σ8)
set_option maxHeartbeats 4000000 in
set_option maxRecDepth 100000 in
theorem c_Laws_forceOn {l : Launch} {g : EG} {ad ta : Nat → Nat} {Rr : va_W} {σ σ' : CS} {r : Int32} {p0 : Int32}  (h : f_Laws_forceOn p0 σ = some (r, σ')) (hφ2 : ph σ.2.2 ≤ BB) : CtI l g yX3_forceOn (.code yX3_forceOn cX3_forceOn 5 (some .int)) 1 23 ad ta Rr σ [.ref (ad 3), .int p0] r σ' := by
  refine Ct.of rfl (by decide) (Nat.le_of_ble_eq_true rfl) ?_
  intro p e s m args below meth c A C hr
  have hφ : ph σ.2.2 ≤ ph σ.2.2 := Nat.le_refl _
  refine nw_zero (ph σ.2.2) ?_
  show NI g p l e s m args below meth c A 1 23 5 ad Rr (ph σ.2.2) (r, σ') ta σ [(0, .ref (ad 3)), (1, .int p0)] 0 []
  unfold f_Laws_forceOn at h
  refine nw_iconst (v := 0) C dX3_forceOn_0 (by decide) ?_
  refine nw_istore_n (lv' := [(2, .int 0), (0, .ref (ad 3)), (1, .int p0)]) C dX3_forceOn_1 rfl (by decide) rfl ?_
  refine nw_iconst (v := 0) C dX3_forceOn_2 (by decide) ?_
  refine nw_istore_n (lv' := [(3, .int 0), (2, .int 0), (0, .ref (ad 3)), (1, .int p0)]) C dX3_forceOn_3 rfl (by decide) rfl ?_
  refine nw_aload_n C dX3_forceOn_4 rfl 2 rfl ?_
  refine nw_get (v := .ref (ad 14)) C in_X3 3 cl_Laws rfl 0 (by decide) tw_276 rfl rfl dX3_forceOn_5 ?_
  refine nc_callVI (q0 := 14) (As := []) (rest := []) C h (fun _ _ e => c_Table_size 3 (by decide) e hφ2) tw_788 kv_X9_size (cl_T 3 (by decide)) rfl ⟨Nat.le_of_ble_eq_true rfl, Nat.le_of_ble_eq_true rfl⟩ rfl dX3_forceOn_8 rfl (Nat.le_of_ble_eq_true rfl) hφ hφ2 (fun r8 σ8 ta h hφ hφ2 => ?_)
  refine nw_iconst (v := 1) C dX3_forceOn_11 (by decide) ?_
  refine nw_isub C dX3_forceOn_12 ?_
  refine nw_istore (lv' := [(4, .int (r8 - 1)), (3, .int 0), (2, .int 0), (0, .ref (ad 3)), (1, .int p0)]) C dX3_forceOn_13 (by decide) rfl ?_
  exact nw_lv (lv' := [(0, .ref (ad 3)), (1, .int p0), (2, .int 0), (3, .int 0), (4, .int (r8 - 1))]) [3, 4, 2, 1, 0] rfl (w_Laws_forceOn_15 C hr p0 FU 0 0 (r8 - 1) _ _ hφ hφ2 h)
theorem dX3_ruleOn_0 : decode cX3_ruleOn 0 = .ok (.iload_n 2, 1) := by decide +kernel
theorem dX3_ruleOn_1 : decode cX3_ruleOn 1 = .ok (.ifCond .lt 11, 3) := by decide +kernel
theorem dX3_ruleOn_4 : decode cX3_ruleOn 4 = .ok (.iload_n 2, 1) := by decide +kernel
theorem dX3_ruleOn_5 : decode cX3_ruleOn 5 = .ok (.getstatic 91, 3) := by decide +kernel
theorem dX3_ruleOn_8 : decode cX3_ruleOn 8 = .ok (.arraylength, 1) := by decide +kernel
theorem dX3_ruleOn_9 : decode cX3_ruleOn 9 = .ok (.if_icmp .lt 5, 3) := by decide +kernel
theorem dX3_ruleOn_12 : decode cX3_ruleOn 12 = .ok (.iconst (-1), 1) := by decide +kernel
theorem dX3_ruleOn_13 : decode cX3_ruleOn 13 = .ok (.ireturn, 1) := by decide +kernel
theorem dX3_ruleOn_14 : decode cX3_ruleOn 14 = .ok (.aload_n 0, 1) := by decide +kernel
theorem dX3_ruleOn_15 : decode cX3_ruleOn 15 = .ok (.iload_n 1, 1) := by decide +kernel
theorem dX3_ruleOn_16 : decode cX3_ruleOn 16 = .ok (.invokevirtual 94, 3) := by decide +kernel
theorem dX3_ruleOn_19 : decode cX3_ruleOn 19 = .ok (.istore_n 3, 1) := by decide +kernel
theorem dX3_ruleOn_20 : decode cX3_ruleOn 20 = .ok (.aload_n 0, 1) := by decide +kernel
theorem dX3_ruleOn_21 : decode cX3_ruleOn 21 = .ok (.getfield 16, 3) := by decide +kernel
theorem dX3_ruleOn_24 : decode cX3_ruleOn 24 = .ok (.invokevirtual 53, 3) := by decide +kernel
theorem dX3_ruleOn_27 : decode cX3_ruleOn 27 = .ok (.iconst 1, 1) := by decide +kernel
theorem dX3_ruleOn_28 : decode cX3_ruleOn 28 = .ok (.isub, 1) := by decide +kernel
theorem dX3_ruleOn_29 : decode cX3_ruleOn 29 = .ok (.istore 4, 2) := by decide +kernel
theorem dX3_ruleOn_31 : decode cX3_ruleOn 31 = .ok (.iload 4, 2) := by decide +kernel
theorem dX3_ruleOn_33 : decode cX3_ruleOn 33 = .ok (.ifCond .lt 42, 3) := by decide +kernel
theorem dX3_ruleOn_36 : decode cX3_ruleOn 36 = .ok (.aload_n 0, 1) := by decide +kernel
theorem dX3_ruleOn_37 : decode cX3_ruleOn 37 = .ok (.getfield 16, 3) := by decide +kernel
theorem dX3_ruleOn_40 : decode cX3_ruleOn 40 = .ok (.iload 4, 2) := by decide +kernel
theorem dX3_ruleOn_42 : decode cX3_ruleOn 42 = .ok (.iconst 2, 1) := by decide +kernel
theorem dX3_ruleOn_43 : decode cX3_ruleOn 43 = .ok (.iload_n 2, 1) := by decide +kernel
theorem dX3_ruleOn_44 : decode cX3_ruleOn 44 = .ok (.iadd, 1) := by decide +kernel
theorem dX3_ruleOn_45 : decode cX3_ruleOn 45 = .ok (.invokevirtual 86, 3) := by decide +kernel
theorem dX3_ruleOn_48 : decode cX3_ruleOn 48 = .ok (.istore 5, 2) := by decide +kernel
theorem dX3_ruleOn_50 : decode cX3_ruleOn 50 = .ok (.iload_n 3, 1) := by decide +kernel
theorem dX3_ruleOn_51 : decode cX3_ruleOn 51 = .ok (.iload 4, 2) := by decide +kernel
theorem dX3_ruleOn_53 : decode cX3_ruleOn 53 = .ok (.ishr, 1) := by decide +kernel
theorem dX3_ruleOn_54 : decode cX3_ruleOn 54 = .ok (.iconst 1, 1) := by decide +kernel
theorem dX3_ruleOn_55 : decode cX3_ruleOn 55 = .ok (.iand, 1) := by decide +kernel
theorem dX3_ruleOn_56 : decode cX3_ruleOn 56 = .ok (.iconst 1, 1) := by decide +kernel
theorem dX3_ruleOn_57 : decode cX3_ruleOn 57 = .ok (.if_icmp .ne 12, 3) := by decide +kernel
theorem dX3_ruleOn_60 : decode cX3_ruleOn 60 = .ok (.iload 5, 2) := by decide +kernel
theorem dX3_ruleOn_62 : decode cX3_ruleOn 62 = .ok (.iconst (-1), 1) := by decide +kernel
theorem dX3_ruleOn_63 : decode cX3_ruleOn 63 = .ok (.if_icmp .eq 6, 3) := by decide +kernel
theorem dX3_ruleOn_66 : decode cX3_ruleOn 66 = .ok (.iload 5, 2) := by decide +kernel
theorem dX3_ruleOn_68 : decode cX3_ruleOn 68 = .ok (.ireturn, 1) := by decide +kernel
theorem dX3_ruleOn_69 : decode cX3_ruleOn 69 = .ok (.iinc 4 (-1), 3) := by decide +kernel
theorem dX3_ruleOn_72 : decode cX3_ruleOn 72 = .ok (.goto (-41), 3) := by decide +kernel
theorem dX3_ruleOn_75 : decode cX3_ruleOn 75 = .ok (.getstatic 91, 3) := by decide +kernel
theorem dX3_ruleOn_78 : decode cX3_ruleOn 78 = .ok (.iload_n 2, 1) := by decide +kernel
theorem dX3_ruleOn_79 : decode cX3_ruleOn 79 = .ok (.iaload, 1) := by decide +kernel
theorem dX3_ruleOn_80 : decode cX3_ruleOn 80 = .ok (.ireturn, 1) := by decide +kernel
def L_Laws_ruleOn_31 (k75 : Int32 → CS → Option (Int32 × CS)) (x2 : Int32) (x3 : Int32) : Nat → Int32 → CS → Option (Int32 × CS)
  | 0, _, _ => none
  | n + 1, x4, σ => if x4 < 0 then k75 x2 σ else bnd (f_Table_get 3 x4 (2 + x2) σ) (fun r45 σ45 => if ((x3 >>> (x4 &&& 31)) &&& 1) = 1 then if r45 = (-1) then (L_Laws_ruleOn_31 k75 x2 x3 n) (x4 + (-1)) σ45 else some (r45, σ45) else (L_Laws_ruleOn_31 k75 x2 x3 n) (x4 + (-1)) σ45)
set_option maxHeartbeats 4000000 in
set_option maxRecDepth 100000 in
theorem w_Laws_ruleOn_31 (C : Cx g p s m args meth c A 6 cX3_ruleOn yX3_ruleOn.cls) (hr : meth.sig.returnType = (some .int))  {res : Int32 × CS}  (x2 : Int32) (x3 : Int32) {k75 : Int32 → CS → Option (Int32 × CS)} (hk75 : ∀ (x2 : Int32) (σ : CS) (ta : Nat → Nat), φ0 ≤ ph σ.2.2 → ph σ.2.2 ≤ BB → k75 x2 σ = some res → NI g p l e s m args below meth c A 2 47 6 ad Rr φ0 res ta σ [(2, .int x2)] 75 []) : ∀ (n : Nat) (x4 : Int32) (σ : CS) (ta : Nat → Nat), φ0 ≤ ph σ.2.2 → ph σ.2.2 ≤ BB → L_Laws_ruleOn_31 k75 x2 x3 n x4 σ = some res → NI g p l e s m args below meth c A 2 47 6 ad Rr φ0 res ta σ [(0, .ref (ad 3)), (2, .int x2), (3, .int x3), (4, .int x4)] 31 [] := by
  intro n
  induction n with
  | zero =>
    intro x4 σ ta hφ hφ2 h
    exact absurd (show (none : Option (Int32 × CS)) = some res from h) (by intro h9; cases h9)
  | succ n ih =>
    intro x4 σ ta hφ hφ2 h
    rw [L_Laws_ruleOn_31] at h
    refine nw_iload C dX3_ruleOn_31 3 rfl ?_
    refine nw_if_lt (tgt := 75) C dX3_ruleOn_33 (by decide) h (fun _ h => ?_) (fun _ h => ?_)
    · exact nw_lv (lv' := [(2, .int x2)]) [1] rfl (hk75 x2 _ _ hφ hφ2 h)
    · refine nw_aload_n C dX3_ruleOn_36 rfl 0 rfl ?_
      refine nw_get (v := .ref (ad 14)) C in_X3 3 cl_Laws rfl 0 (by decide) tw_276 rfl rfl dX3_ruleOn_37 ?_
      refine nw_iload C dX3_ruleOn_40 3 rfl ?_
      refine nw_iconst (v := 2) C dX3_ruleOn_42 (by decide) ?_
      refine nw_iload_n C dX3_ruleOn_43 rfl 1 rfl ?_
      refine nw_iadd C dX3_ruleOn_44 ?_
      refine nc_callVI (q0 := 14) (As := [.int x4, .int (2 + x2)]) (rest := []) C h (fun _ _ e => c_Table_get 3 (by decide) e hφ2) tw_789 kv_X9_get (cl_T 3 (by decide)) rfl ⟨Nat.le_of_ble_eq_true rfl, Nat.le_of_ble_eq_true rfl⟩ rfl dX3_ruleOn_45 rfl (Nat.le_of_ble_eq_true rfl) hφ hφ2 (fun r45 σ45 ta h hφ hφ2 => ?_)
      refine nw_istore (lv' := [(5, .int r45), (0, .ref (ad 3)), (2, .int x2), (3, .int x3), (4, .int x4)]) C dX3_ruleOn_48 (by decide) rfl ?_
      refine nw_iload_n C dX3_ruleOn_50 rfl 3 rfl ?_
      refine nw_iload C dX3_ruleOn_51 4 rfl ?_
      refine nw_ishr C dX3_ruleOn_53 ?_
      refine nw_iconst (v := 1) C dX3_ruleOn_54 (by decide) ?_
      refine nw_iand C dX3_ruleOn_55 ?_
      refine nw_iconst (v := 1) C dX3_ruleOn_56 (by decide) ?_
      refine nw_icmp_ne (tgt := 69) C dX3_ruleOn_57 (by decide) h (fun _ h => ?_) (fun _ h => ?_)
      · refine nw_iload C dX3_ruleOn_60 0 rfl ?_
        refine nw_iconst (v := (-1)) C dX3_ruleOn_62 (by decide) ?_
        refine nw_icmp_eq (tgt := 69) C dX3_ruleOn_63 (by decide) h (fun _ h => ?_) (fun _ h => ?_)
        · refine nw_iinc (lv' := [(4, .int (x4 + (-1))), (5, .int r45), (0, .ref (ad 3)), (2, .int x2), (3, .int x3)]) C (x4 + (-1)) dX3_ruleOn_69 4 rfl rfl (by decide) rfl ?_
          refine nw_goto (tgt := 31) C dX3_ruleOn_72 (by decide) ?_
          exact nw_lv (lv' := [(0, .ref (ad 3)), (2, .int x2), (3, .int x3), (4, .int (x4 + (-1)))]) [2, 3, 4, 0] rfl (ih (x4 + (-1)) _ _ hφ hφ2 h)
        · refine nw_iload C dX3_ruleOn_66 0 rfl ?_
          exact nc_iret C hr dX3_ruleOn_68 hφ hφ2 h
      · refine nw_iinc (lv' := [(4, .int (x4 + (-1))), (5, .int r45), (0, .ref (ad 3)), (2, .int x2), (3, .int x3)]) C (x4 + (-1)) dX3_ruleOn_69 4 rfl rfl (by decide) rfl ?_
        refine nw_goto (tgt := 31) C dX3_ruleOn_72 (by decide) ?_
        exact nw_lv (lv' := [(0, .ref (ad 3)), (2, .int x2), (3, .int x3), (4, .int (x4 + (-1)))]) [2, 3, 4, 0] rfl (ih (x4 + (-1)) _ _ hφ hφ2 h)
def B_Laws_ruleOn_75   (x2 : Int32) (σ : CS) : Option (Int32 × CS) := gix x2 5 (some ((plainR (x2 : Int32).toNatClampNeg), σ))
set_option maxHeartbeats 4000000 in
set_option maxRecDepth 100000 in
theorem w_Laws_ruleOn_75 (C : Cx g p s m args meth c A 6 cX3_ruleOn yX3_ruleOn.cls) (hr : meth.sig.returnType = (some .int))  {res : Int32 × CS}   (x2 : Int32)  (σ : CS) (ta : Nat → Nat) (hφ : φ0 ≤ ph σ.2.2) (hφ2 : ph σ.2.2 ≤ BB) (h : B_Laws_ruleOn_75 x2 σ = some res) : NI g p l e s m args below meth c A 2 47 6 ad Rr φ0 res ta σ [(2, .int x2)] 75 [] := by
  unfold B_Laws_ruleOn_75 at h
  refine nw_prget C tw_782 dX3_ruleOn_75 ?_
  refine nw_iload_n C dX3_ruleOn_78 rfl 0 rfl ?_
  refine nw_prld C dX3_ruleOn_79 h (fun h => ?_)
  exact nc_iret C hr dX3_ruleOn_80 hφ hφ2 h
def f_Laws_ruleOn (p0 : Int32) (p1 : Int32) (σ : CS) : Option (Int32 × CS) := if p1 < 0 then some ((-1), σ) else if p1 < 5 then bnd (f_Laws_forceOn p0 σ) (fun r16 σ16 => bnd (f_Table_size 3 σ16) (fun r24 σ24 => L_Laws_ruleOn_31 (B_Laws_ruleOn_75) p1 r16 FU (r24 - 1) σ24)) else some ((-1), σ)
set_option maxHeartbeats 4000000 in
set_option maxRecDepth 100000 in
theorem c_Laws_ruleOn {l : Launch} {g : EG} {ad ta : Nat → Nat} {Rr : va_W} {σ σ' : CS} {r : Int32} {p0 : Int32} {p1 : Int32}  (h : f_Laws_ruleOn p0 p1 σ = some (r, σ')) (hφ2 : ph σ.2.2 ≤ BB) : CtI l g yX3_ruleOn (.code yX3_ruleOn cX3_ruleOn 6 (some .int)) 2 47 ad ta Rr σ [.ref (ad 3), .int p0, .int p1] r σ' := by
  refine Ct.of rfl (by decide) (Nat.le_of_ble_eq_true rfl) ?_
  intro p e s m args below meth c A C hr
  have hφ : ph σ.2.2 ≤ ph σ.2.2 := Nat.le_refl _
  refine nw_zero (ph σ.2.2) ?_
  show NI g p l e s m args below meth c A 2 47 6 ad Rr (ph σ.2.2) (r, σ') ta σ [(0, .ref (ad 3)), (1, .int p0), (2, .int p1)] 0 []
  unfold f_Laws_ruleOn at h
  refine nw_iload_n C dX3_ruleOn_0 rfl 2 rfl ?_
  refine nw_if_lt (tgt := 12) C dX3_ruleOn_1 (by decide) h (fun _ h => ?_) (fun _ h => ?_)
  · refine nw_iconst (v := (-1)) C dX3_ruleOn_12 (by decide) ?_
    exact nc_iret C hr dX3_ruleOn_13 hφ hφ2 h
  · refine nw_iload_n C dX3_ruleOn_4 rfl 2 rfl ?_
    refine nw_prget C tw_782 dX3_ruleOn_5 ?_
    refine nw_prlen C dX3_ruleOn_8 ?_
    refine nw_icmp_lt (tgt := 14) C dX3_ruleOn_9 (by decide) h (fun _ h => ?_) (fun _ h => ?_)
    · refine nw_aload_n C dX3_ruleOn_14 rfl 0 rfl ?_
      refine nw_iload_n C dX3_ruleOn_15 rfl 1 rfl ?_
      refine nc_callVI (q0 := 3) (As := [.int p0]) (rest := []) C h (fun _ _ e => c_Laws_forceOn e hφ2) tw_784 kv_X3_forceOn cl_Laws rfl ⟨Nat.le_of_ble_eq_true rfl, Nat.le_of_ble_eq_true rfl⟩ rfl dX3_ruleOn_16 rfl (Nat.le_of_ble_eq_true rfl) hφ hφ2 (fun r16 σ16 ta h hφ hφ2 => ?_)
      refine nw_istore_n (lv' := [(3, .int r16), (0, .ref (ad 3)), (1, .int p0), (2, .int p1)]) C dX3_ruleOn_19 rfl (by decide) rfl ?_
      refine nw_aload_n C dX3_ruleOn_20 rfl 1 rfl ?_
      refine nw_get (v := .ref (ad 14)) C in_X3 3 cl_Laws rfl 0 (by decide) tw_276 rfl rfl dX3_ruleOn_21 ?_
      refine nc_callVI (q0 := 14) (As := []) (rest := []) C h (fun _ _ e => c_Table_size 3 (by decide) e hφ2) tw_788 kv_X9_size (cl_T 3 (by decide)) rfl ⟨Nat.le_of_ble_eq_true rfl, Nat.le_of_ble_eq_true rfl⟩ rfl dX3_ruleOn_24 rfl (Nat.le_of_ble_eq_true rfl) hφ hφ2 (fun r24 σ24 ta h hφ hφ2 => ?_)
      refine nw_iconst (v := 1) C dX3_ruleOn_27 (by decide) ?_
      refine nw_isub C dX3_ruleOn_28 ?_
      refine nw_istore (lv' := [(4, .int (r24 - 1)), (3, .int r16), (0, .ref (ad 3)), (1, .int p0), (2, .int p1)]) C dX3_ruleOn_29 (by decide) rfl ?_
      exact nw_lv (lv' := [(0, .ref (ad 3)), (2, .int p1), (3, .int r16), (4, .int (r24 - 1))]) [2, 4, 1, 0] rfl (w_Laws_ruleOn_31 C hr p1 r16 (fun x2_ σ_ ta_ hφ_ hφ2_ h_ => w_Laws_ruleOn_75 C hr x2_ σ_ ta_ hφ_ hφ2_ h_) FU (r24 - 1) _ _ hφ hφ2 h)
    · refine nw_iconst (v := (-1)) C dX3_ruleOn_12 (by decide) ?_
      exact nc_iret C hr dX3_ruleOn_13 hφ hφ2 h
theorem dX0_sureOn_0 : decode cX0_sureOn 0 = .ok (.aload_n 0, 1) := by decide +kernel
theorem dX0_sureOn_1 : decode cX0_sureOn 1 = .ok (.getfield 15, 3) := by decide +kernel
theorem dX0_sureOn_4 : decode cX0_sureOn 4 = .ok (.iload_n 2, 1) := by decide +kernel
theorem dX0_sureOn_5 : decode cX0_sureOn 5 = .ok (.iconst 3, 1) := by decide +kernel
theorem dX0_sureOn_6 : decode cX0_sureOn 6 = .ok (.invokevirtual 49, 3) := by decide +kernel
theorem dX0_sureOn_9 : decode cX0_sureOn 9 = .ok (.istore_n 3, 1) := by decide +kernel
theorem dX0_sureOn_10 : decode cX0_sureOn 10 = .ok (.lconst 0, 1) := by decide +kernel
theorem dX0_sureOn_11 : decode cX0_sureOn 11 = .ok (.lstore 4, 2) := by decide +kernel
theorem dX0_sureOn_13 : decode cX0_sureOn 13 = .ok (.iconst 0, 1) := by decide +kernel
theorem dX0_sureOn_14 : decode cX0_sureOn 14 = .ok (.istore 6, 2) := by decide +kernel
theorem dX0_sureOn_16 : decode cX0_sureOn 16 = .ok (.iload 6, 2) := by decide +kernel
theorem dX0_sureOn_18 : decode cX0_sureOn 18 = .ok (.aload_n 0, 1) := by decide +kernel
theorem dX0_sureOn_19 : decode cX0_sureOn 19 = .ok (.getfield 28, 3) := by decide +kernel
theorem dX0_sureOn_22 : decode cX0_sureOn 22 = .ok (.invokevirtual 52, 3) := by decide +kernel
theorem dX0_sureOn_25 : decode cX0_sureOn 25 = .ok (.if_icmp .ge 84, 3) := by decide +kernel
theorem dX0_sureOn_28 : decode cX0_sureOn 28 = .ok (.iload_n 2, 1) := by decide +kernel
theorem dX0_sureOn_29 : decode cX0_sureOn 29 = .ok (.aload_n 0, 1) := by decide +kernel
theorem dX0_sureOn_30 : decode cX0_sureOn 30 = .ok (.getfield 28, 3) := by decide +kernel
theorem dX0_sureOn_33 : decode cX0_sureOn 33 = .ok (.iload 6, 2) := by decide +kernel
theorem dX0_sureOn_35 : decode cX0_sureOn 35 = .ok (.iconst 2, 1) := by decide +kernel
theorem dX0_sureOn_36 : decode cX0_sureOn 36 = .ok (.invokevirtual 39, 3) := by decide +kernel
theorem dX0_sureOn_39 : decode cX0_sureOn 39 = .ok (.isub, 1) := by decide +kernel
theorem dX0_sureOn_40 : decode cX0_sureOn 40 = .ok (.istore 7, 2) := by decide +kernel
theorem dX0_sureOn_42 : decode cX0_sureOn 42 = .ok (.aload_n 0, 1) := by decide +kernel
theorem dX0_sureOn_43 : decode cX0_sureOn 43 = .ok (.getfield 28, 3) := by decide +kernel
theorem dX0_sureOn_46 : decode cX0_sureOn 46 = .ok (.iload 6, 2) := by decide +kernel
theorem dX0_sureOn_48 : decode cX0_sureOn 48 = .ok (.iconst 0, 1) := by decide +kernel
theorem dX0_sureOn_49 : decode cX0_sureOn 49 = .ok (.invokevirtual 39, 3) := by decide +kernel
theorem dX0_sureOn_52 : decode cX0_sureOn 52 = .ok (.iload_n 1, 1) := by decide +kernel
theorem dX0_sureOn_53 : decode cX0_sureOn 53 = .ok (.if_icmp .ne 50, 3) := by decide +kernel
theorem dX0_sureOn_56 : decode cX0_sureOn 56 = .ok (.iload 7, 2) := by decide +kernel
theorem dX0_sureOn_58 : decode cX0_sureOn 58 = .ok (.ifCond .lt 45, 3) := by decide +kernel
theorem dX0_sureOn_61 : decode cX0_sureOn 61 = .ok (.iload 7, 2) := by decide +kernel
theorem dX0_sureOn_63 : decode cX0_sureOn 63 = .ok (.sipush 360, 3) := by decide +kernel
theorem dX0_sureOn_66 : decode cX0_sureOn 66 = .ok (.idiv, 1) := by decide +kernel
theorem dX0_sureOn_67 : decode cX0_sureOn 67 = .ok (.iload_n 3, 1) := by decide +kernel
theorem dX0_sureOn_68 : decode cX0_sureOn 68 = .ok (.if_icmp .lt 6, 3) := by decide +kernel
theorem dX0_sureOn_71 : decode cX0_sureOn 71 = .ok (.goto 32, 3) := by decide +kernel
theorem dX0_sureOn_74 : decode cX0_sureOn 74 = .ok (.aload_n 0, 1) := by decide +kernel
theorem dX0_sureOn_75 : decode cX0_sureOn 75 = .ok (.getfield 28, 3) := by decide +kernel
theorem dX0_sureOn_78 : decode cX0_sureOn 78 = .ok (.iload 6, 2) := by decide +kernel
theorem dX0_sureOn_80 : decode cX0_sureOn 80 = .ok (.iconst 1, 1) := by decide +kernel
theorem dX0_sureOn_81 : decode cX0_sureOn 81 = .ok (.invokevirtual 39, 3) := by decide +kernel
theorem dX0_sureOn_84 : decode cX0_sureOn 84 = .ok (.iconst 1, 1) := by decide +kernel
theorem dX0_sureOn_85 : decode cX0_sureOn 85 = .ok (.if_icmp .ne 5, 3) := by decide +kernel
theorem dX0_sureOn_88 : decode cX0_sureOn 88 = .ok (.iconst 0, 1) := by decide +kernel
theorem dX0_sureOn_89 : decode cX0_sureOn 89 = .ok (.ireturn, 1) := by decide +kernel
theorem dX0_sureOn_90 : decode cX0_sureOn 90 = .ok (.lload 4, 2) := by decide +kernel
theorem dX0_sureOn_92 : decode cX0_sureOn 92 = .ok (.lconst 1, 1) := by decide +kernel
theorem dX0_sureOn_93 : decode cX0_sureOn 93 = .ok (.iload 7, 2) := by decide +kernel
theorem dX0_sureOn_95 : decode cX0_sureOn 95 = .ok (.sipush 360, 3) := by decide +kernel
theorem dX0_sureOn_98 : decode cX0_sureOn 98 = .ok (.idiv, 1) := by decide +kernel
theorem dX0_sureOn_99 : decode cX0_sureOn 99 = .ok (.lshl, 1) := by decide +kernel
theorem dX0_sureOn_100 : decode cX0_sureOn 100 = .ok (.lor, 1) := by decide +kernel
theorem dX0_sureOn_101 : decode cX0_sureOn 101 = .ok (.lstore 4, 2) := by decide +kernel
theorem dX0_sureOn_103 : decode cX0_sureOn 103 = .ok (.iinc 6 1, 3) := by decide +kernel
theorem dX0_sureOn_106 : decode cX0_sureOn 106 = .ok (.goto (-90), 3) := by decide +kernel
theorem dX0_sureOn_109 : decode cX0_sureOn 109 = .ok (.lload 4, 2) := by decide +kernel
theorem dX0_sureOn_111 : decode cX0_sureOn 111 = .ok (.invokestatic 55, 3) := by decide +kernel
theorem dX0_sureOn_114 : decode cX0_sureOn 114 = .ok (.istore 6, 2) := by decide +kernel
theorem dX0_sureOn_116 : decode cX0_sureOn 116 = .ok (.iload 6, 2) := by decide +kernel
theorem dX0_sureOn_118 : decode cX0_sureOn 118 = .ok (.iload_n 3, 1) := by decide +kernel
theorem dX0_sureOn_119 : decode cX0_sureOn 119 = .ok (.if_icmp .ne 5, 3) := by decide +kernel
theorem dX0_sureOn_122 : decode cX0_sureOn 122 = .ok (.iconst 2, 1) := by decide +kernel
theorem dX0_sureOn_123 : decode cX0_sureOn 123 = .ok (.ireturn, 1) := by decide +kernel
theorem dX0_sureOn_124 : decode cX0_sureOn 124 = .ok (.iconst 2, 1) := by decide +kernel
theorem dX0_sureOn_125 : decode cX0_sureOn 125 = .ok (.iload 6, 2) := by decide +kernel
theorem dX0_sureOn_127 : decode cX0_sureOn 127 = .ok (.imul, 1) := by decide +kernel
theorem dX0_sureOn_128 : decode cX0_sureOn 128 = .ok (.iload_n 3, 1) := by decide +kernel
theorem dX0_sureOn_129 : decode cX0_sureOn 129 = .ok (.if_icmp .lt 7, 3) := by decide +kernel
theorem dX0_sureOn_132 : decode cX0_sureOn 132 = .ok (.iconst 1, 1) := by decide +kernel
theorem dX0_sureOn_133 : decode cX0_sureOn 133 = .ok (.goto 4, 3) := by decide +kernel
theorem dX0_sureOn_136 : decode cX0_sureOn 136 = .ok (.iconst 0, 1) := by decide +kernel
theorem dX0_sureOn_137 : decode cX0_sureOn 137 = .ok (.ireturn, 1) := by decide +kernel
def L_Claims_sureOn_16 (k109 : Int32 → Int64 → CS → Option (Int32 × CS)) (x1 : Int32) (x2 : Int32) (x3 : Int32) : Nat → Int64 → Int32 → CS → Option (Int32 × CS)
  | 0, _, _, _ => none
  | n + 1, x4, x6, σ => bnd (f_Table_size 8 σ) (fun r22 σ22 => if r22 ≤ x6 then k109 x3 x4 σ22 else bnd (f_Table_get 8 x6 2 σ22) (fun r36 σ36 => bnd (f_Table_get 8 x6 0 σ36) (fun r49 σ49 => if r49 = x1 then if (x2 - r36) < 0 then (L_Claims_sureOn_16 k109 x1 x2 x3 n) x4 (x6 + 1) σ49 else if ((x2 - r36) / 360) < x3 then bnd (f_Table_get 8 x6 1 σ49) (fun r81 σ81 => if r81 = 1 then some (0, σ81) else (L_Claims_sureOn_16 k109 x1 x2 x3 n) (x4 ||| ((1 : Int64) <<< ((((x2 - r36) / 360) : Int32).toInt64 &&& 63))) (x6 + 1) σ81) else (L_Claims_sureOn_16 k109 x1 x2 x3 n) x4 (x6 + 1) σ49 else (L_Claims_sureOn_16 k109 x1 x2 x3 n) x4 (x6 + 1) σ49)))
set_option maxHeartbeats 4000000 in
set_option maxRecDepth 100000 in
theorem w_Claims_sureOn_16 (C : Cx g p s m args meth c A 8 cX0_sureOn yX0_sureOn.cls) (hr : meth.sig.returnType = (some .int))  {res : Int32 × CS}  (x1 : Int32) (x2 : Int32) (x3 : Int32) {k109 : Int32 → Int64 → CS → Option (Int32 × CS)} (hk109 : ∀ (x3 : Int32) (x4 : Int64) (σ : CS) (ta : Nat → Nat), φ0 ≤ ph σ.2.2 → ph σ.2.2 ≤ BB → k109 x3 x4 σ = some res → NI g p l e s m args below meth c A 3 72 8 ad Rr φ0 res ta σ [(3, .int x3), (4, .long x4)] 109 []) : ∀ (n : Nat) (x4 : Int64) (x6 : Int32) (σ : CS) (ta : Nat → Nat), φ0 ≤ ph σ.2.2 → ph σ.2.2 ≤ BB → L_Claims_sureOn_16 k109 x1 x2 x3 n x4 x6 σ = some res → NI g p l e s m args below meth c A 3 72 8 ad Rr φ0 res ta σ [(0, .ref (ad 6)), (1, .int x1), (2, .int x2), (3, .int x3), (4, .long x4), (6, .int x6)] 16 [] := by
  intro n
  induction n with
  | zero =>
    intro x4 x6 σ ta hφ hφ2 h
    exact absurd (show (none : Option (Int32 × CS)) = some res from h) (by intro h9; cases h9)
  | succ n ih =>
    intro x4 x6 σ ta hφ hφ2 h
    rw [L_Claims_sureOn_16] at h
    refine nw_iload C dX0_sureOn_16 5 rfl ?_
    refine nw_aload_n C dX0_sureOn_18 rfl 0 rfl ?_
    refine nw_get (v := .ref (ad 19)) C in_X0 6 cl_Claims rfl 1 (by decide) tw_328 rfl rfl dX0_sureOn_19 ?_
    refine nc_callVI (q0 := 19) (As := []) (rest := [.int x6]) C h (fun _ _ e => c_Table_size 8 (by decide) e hφ2) tw_1342 kv_X9_size (cl_T 8 (by decide)) rfl ⟨Nat.le_of_ble_eq_true rfl, Nat.le_of_ble_eq_true rfl⟩ rfl dX0_sureOn_22 rfl (Nat.le_of_ble_eq_true rfl) hφ hφ2 (fun r22 σ22 ta h hφ hφ2 => ?_)
    refine nw_icmp_ge (tgt := 109) C dX0_sureOn_25 (by decide) h (fun _ h => ?_) (fun _ h => ?_)
    · exact nw_lv (lv' := [(3, .int x3), (4, .long x4)]) [3, 4] rfl (hk109 x3 x4 _ _ hφ hφ2 h)
    · refine nw_iload_n C dX0_sureOn_28 rfl 2 rfl ?_
      refine nw_aload_n C dX0_sureOn_29 rfl 0 rfl ?_
      refine nw_get (v := .ref (ad 19)) C in_X0 6 cl_Claims rfl 1 (by decide) tw_328 rfl rfl dX0_sureOn_30 ?_
      refine nw_iload C dX0_sureOn_33 5 rfl ?_
      refine nw_iconst (v := 2) C dX0_sureOn_35 (by decide) ?_
      refine nc_callVI (q0 := 19) (As := [.int x6, .int 2]) (rest := [.int x2]) C h (fun _ _ e => c_Table_get 8 (by decide) e hφ2) tw_1343 kv_X9_get (cl_T 8 (by decide)) rfl ⟨Nat.le_of_ble_eq_true rfl, Nat.le_of_ble_eq_true rfl⟩ rfl dX0_sureOn_36 rfl (Nat.le_of_ble_eq_true rfl) hφ hφ2 (fun r36 σ36 ta h hφ hφ2 => ?_)
      refine nw_isub C dX0_sureOn_39 ?_
      refine nw_istore (lv' := [(7, .int (x2 - r36)), (0, .ref (ad 6)), (1, .int x1), (2, .int x2), (3, .int x3), (4, .long x4), (6, .int x6)]) C dX0_sureOn_40 (by decide) rfl ?_
      refine nw_aload_n C dX0_sureOn_42 rfl 1 rfl ?_
      refine nw_get (v := .ref (ad 19)) C in_X0 6 cl_Claims rfl 1 (by decide) tw_328 rfl rfl dX0_sureOn_43 ?_
      refine nw_iload C dX0_sureOn_46 6 rfl ?_
      refine nw_iconst (v := 0) C dX0_sureOn_48 (by decide) ?_
      refine nc_callVI (q0 := 19) (As := [.int x6, .int 0]) (rest := []) C h (fun _ _ e => c_Table_get 8 (by decide) e hφ2) tw_1343 kv_X9_get (cl_T 8 (by decide)) rfl ⟨Nat.le_of_ble_eq_true rfl, Nat.le_of_ble_eq_true rfl⟩ rfl dX0_sureOn_49 rfl (Nat.le_of_ble_eq_true rfl) hφ hφ2 (fun r49 σ49 ta h hφ hφ2 => ?_)
      refine nw_iload_n C dX0_sureOn_52 rfl 2 rfl ?_
      refine nw_icmp_ne (tgt := 103) C dX0_sureOn_53 (by decide) h (fun _ h => ?_) (fun _ h => ?_)
      · refine nw_iload C dX0_sureOn_56 0 rfl ?_
        refine nw_if_lt (tgt := 103) C dX0_sureOn_58 (by decide) h (fun _ h => ?_) (fun _ h => ?_)
        · refine nw_iinc (lv' := [(6, .int (x6 + 1)), (7, .int (x2 - r36)), (0, .ref (ad 6)), (1, .int x1), (2, .int x2), (3, .int x3), (4, .long x4)]) C (x6 + 1) dX0_sureOn_103 6 rfl rfl (by decide) rfl ?_
          refine nw_goto (tgt := 16) C dX0_sureOn_106 (by decide) ?_
          exact nw_lv (lv' := [(0, .ref (ad 6)), (1, .int x1), (2, .int x2), (3, .int x3), (4, .long x4), (6, .int (x6 + 1))]) [2, 3, 4, 5, 6, 0] rfl (ih x4 (x6 + 1) _ _ hφ hφ2 h)
        · refine nw_iload C dX0_sureOn_61 0 rfl ?_
          refine nw_sipush (v := 360) C dX0_sureOn_63 (by decide) ?_
          refine nw_idivk C dX0_sureOn_66 (by decide) ?_
          refine nw_iload_n C dX0_sureOn_67 rfl 4 rfl ?_
          refine nw_icmp_lt (tgt := 74) C dX0_sureOn_68 (by decide) h (fun _ h => ?_) (fun _ h => ?_)
          · refine nw_aload_n C dX0_sureOn_74 rfl 1 rfl ?_
            refine nw_get (v := .ref (ad 19)) C in_X0 6 cl_Claims rfl 1 (by decide) tw_328 rfl rfl dX0_sureOn_75 ?_
            refine nw_iload C dX0_sureOn_78 6 rfl ?_
            refine nw_iconst (v := 1) C dX0_sureOn_80 (by decide) ?_
            refine nc_callVI (q0 := 19) (As := [.int x6, .int 1]) (rest := []) C h (fun _ _ e => c_Table_get 8 (by decide) e hφ2) tw_1343 kv_X9_get (cl_T 8 (by decide)) rfl ⟨Nat.le_of_ble_eq_true rfl, Nat.le_of_ble_eq_true rfl⟩ rfl dX0_sureOn_81 rfl (Nat.le_of_ble_eq_true rfl) hφ hφ2 (fun r81 σ81 ta h hφ hφ2 => ?_)
            refine nw_iconst (v := 1) C dX0_sureOn_84 (by decide) ?_
            refine nw_icmp_ne (tgt := 90) C dX0_sureOn_85 (by decide) h (fun _ h => ?_) (fun _ h => ?_)
            · refine nw_iconst (v := 0) C dX0_sureOn_88 (by decide) ?_
              exact nc_iret C hr dX0_sureOn_89 hφ hφ2 h
            · refine nw_lload C dX0_sureOn_90 5 rfl ?_
              refine nw_lconst (v := 1) C dX0_sureOn_92 (by decide) ?_
              refine nw_iload C dX0_sureOn_93 0 rfl ?_
              refine nw_sipush (v := 360) C dX0_sureOn_95 (by decide) ?_
              refine nw_idivk C dX0_sureOn_98 (by decide) ?_
              refine nw_lshl C dX0_sureOn_99 ?_
              refine nw_lor C dX0_sureOn_100 ?_
              refine nw_lstore (lv' := [(4, .long (x4 ||| ((1 : Int64) <<< ((((x2 - r36) / 360) : Int32).toInt64 &&& 63)))), (7, .int (x2 - r36)), (0, .ref (ad 6)), (1, .int x1), (2, .int x2), (3, .int x3), (6, .int x6)]) C dX0_sureOn_101 (by decide) rfl ?_
              refine nw_iinc (lv' := [(6, .int (x6 + 1)), (4, .long (x4 ||| ((1 : Int64) <<< ((((x2 - r36) / 360) : Int32).toInt64 &&& 63)))), (7, .int (x2 - r36)), (0, .ref (ad 6)), (1, .int x1), (2, .int x2), (3, .int x3)]) C (x6 + 1) dX0_sureOn_103 6 rfl rfl (by decide) rfl ?_
              refine nw_goto (tgt := 16) C dX0_sureOn_106 (by decide) ?_
              exact nw_lv (lv' := [(0, .ref (ad 6)), (1, .int x1), (2, .int x2), (3, .int x3), (4, .long (x4 ||| ((1 : Int64) <<< ((((x2 - r36) / 360) : Int32).toInt64 &&& 63)))), (6, .int (x6 + 1))]) [3, 4, 5, 6, 1, 0] rfl (ih (x4 ||| ((1 : Int64) <<< ((((x2 - r36) / 360) : Int32).toInt64 &&& 63))) (x6 + 1) _ _ hφ hφ2 h)
          · refine nw_goto (tgt := 103) C dX0_sureOn_71 (by decide) ?_
            refine nw_iinc (lv' := [(6, .int (x6 + 1)), (7, .int (x2 - r36)), (0, .ref (ad 6)), (1, .int x1), (2, .int x2), (3, .int x3), (4, .long x4)]) C (x6 + 1) dX0_sureOn_103 6 rfl rfl (by decide) rfl ?_
            refine nw_goto (tgt := 16) C dX0_sureOn_106 (by decide) ?_
            exact nw_lv (lv' := [(0, .ref (ad 6)), (1, .int x1), (2, .int x2), (3, .int x3), (4, .long x4), (6, .int (x6 + 1))]) [2, 3, 4, 5, 6, 0] rfl (ih x4 (x6 + 1) _ _ hφ hφ2 h)
      · refine nw_iinc (lv' := [(6, .int (x6 + 1)), (7, .int (x2 - r36)), (0, .ref (ad 6)), (1, .int x1), (2, .int x2), (3, .int x3), (4, .long x4)]) C (x6 + 1) dX0_sureOn_103 6 rfl rfl (by decide) rfl ?_
        refine nw_goto (tgt := 16) C dX0_sureOn_106 (by decide) ?_
        exact nw_lv (lv' := [(0, .ref (ad 6)), (1, .int x1), (2, .int x2), (3, .int x3), (4, .long x4), (6, .int (x6 + 1))]) [2, 3, 4, 5, 6, 0] rfl (ih x4 (x6 + 1) _ _ hφ hφ2 h)
def B_Claims_sureOn_109   (x3 : Int32) (x4 : Int64) (σ : CS) : Option (Int32 × CS) := bnd (f_java_lang_Long_bitCount x4 σ) (fun r111 σ111 => if r111 = x3 then some (2, σ111) else if (2 * r111) < x3 then some (0, σ111) else some (1, σ111))
set_option maxHeartbeats 4000000 in
set_option maxRecDepth 100000 in
theorem w_Claims_sureOn_109 (C : Cx g p s m args meth c A 8 cX0_sureOn yX0_sureOn.cls) (hr : meth.sig.returnType = (some .int))  {res : Int32 × CS}   (x3 : Int32) (x4 : Int64)  (σ : CS) (ta : Nat → Nat) (hφ : φ0 ≤ ph σ.2.2) (hφ2 : ph σ.2.2 ≤ BB) (h : B_Claims_sureOn_109 x3 x4 σ = some res) : NI g p l e s m args below meth c A 3 72 8 ad Rr φ0 res ta σ [(3, .int x3), (4, .long x4)] 109 [] := by
  unfold B_Claims_sureOn_109 at h
  refine nw_lload C dX0_sureOn_109 1 rfl ?_
  refine nc_callSI  (As := [.long x4]) (rest := []) C h (fun _ _ e => c_java_lang_Long_bitCount e hφ2) tw_1356 ks_J13_bitCount_95d88 ⟨Nat.le_of_ble_eq_true rfl, Nat.le_of_ble_eq_true rfl⟩ rfl dX0_sureOn_111 rfl (Nat.le_of_ble_eq_true rfl) hφ hφ2 (fun r111 σ111 ta h hφ hφ2 => ?_)
  refine nw_istore (lv' := [(6, .int r111), (3, .int x3), (4, .long x4)]) C dX0_sureOn_114 (by decide) rfl ?_
  refine nw_iload C dX0_sureOn_116 0 rfl ?_
  refine nw_iload_n C dX0_sureOn_118 rfl 1 rfl ?_
  refine nw_icmp_ne (tgt := 124) C dX0_sureOn_119 (by decide) h (fun _ h => ?_) (fun _ h => ?_)
  · refine nw_iconst (v := 2) C dX0_sureOn_122 (by decide) ?_
    exact nc_iret C hr dX0_sureOn_123 hφ hφ2 h
  · refine nw_iconst (v := 2) C dX0_sureOn_124 (by decide) ?_
    refine nw_iload C dX0_sureOn_125 0 rfl ?_
    refine nw_imul C dX0_sureOn_127 ?_
    refine nw_iload_n C dX0_sureOn_128 rfl 1 rfl ?_
    refine nw_icmp_lt (tgt := 136) C dX0_sureOn_129 (by decide) h (fun _ h => ?_) (fun _ h => ?_)
    · refine nw_iconst (v := 0) C dX0_sureOn_136 (by decide) ?_
      exact nc_iret C hr dX0_sureOn_137 hφ hφ2 h
    · refine nw_iconst (v := 1) C dX0_sureOn_132 (by decide) ?_
      refine nw_goto (tgt := 137) C dX0_sureOn_133 (by decide) ?_
      exact nc_iret C hr dX0_sureOn_137 hφ hφ2 h
def f_Claims_sureOn (p0 : Int32) (p1 : Int32) (σ : CS) : Option (Int32 × CS) := bnd (f_Laws_ruleOn p1 3 σ) (fun r6 σ6 => L_Claims_sureOn_16 (B_Claims_sureOn_109) p0 p1 r6 FU 0 0 σ6)
set_option maxHeartbeats 4000000 in
set_option maxRecDepth 100000 in
theorem c_Claims_sureOn {l : Launch} {g : EG} {ad ta : Nat → Nat} {Rr : va_W} {σ σ' : CS} {r : Int32} {p0 : Int32} {p1 : Int32}  (h : f_Claims_sureOn p0 p1 σ = some (r, σ')) (hφ2 : ph σ.2.2 ≤ BB) : CtI l g yX0_sureOn (.code yX0_sureOn cX0_sureOn 8 (some .int)) 3 72 ad ta Rr σ [.ref (ad 6), .int p0, .int p1] r σ' := by
  refine Ct.of rfl (by decide) (Nat.le_of_ble_eq_true rfl) ?_
  intro p e s m args below meth c A C hr
  have hφ : ph σ.2.2 ≤ ph σ.2.2 := Nat.le_refl _
  refine nw_zero (ph σ.2.2) ?_
  show NI g p l e s m args below meth c A 3 72 8 ad Rr (ph σ.2.2) (r, σ') ta σ [(0, .ref (ad 6)), (1, .int p0), (2, .int p1)] 0 []
  unfold f_Claims_sureOn at h
  refine nw_aload_n C dX0_sureOn_0 rfl 0 rfl ?_
  refine nw_get (v := .ref (ad 3)) C in_X0 6 cl_Claims rfl 3 (by decide) tw_330 rfl rfl dX0_sureOn_1 ?_
  refine nw_iload_n C dX0_sureOn_4 rfl 2 rfl ?_
  refine nw_iconst (v := 3) C dX0_sureOn_5 (by decide) ?_
  refine nc_callVI (q0 := 3) (As := [.int p1, .int 3]) (rest := []) C h (fun _ _ e => c_Laws_ruleOn e hφ2) tw_1355 kv_X3_ruleOn cl_Laws rfl ⟨Nat.le_of_ble_eq_true rfl, Nat.le_of_ble_eq_true rfl⟩ rfl dX0_sureOn_6 rfl (Nat.le_of_ble_eq_true rfl) hφ hφ2 (fun r6 σ6 ta h hφ hφ2 => ?_)
  refine nw_istore_n (lv' := [(3, .int r6), (0, .ref (ad 6)), (1, .int p0), (2, .int p1)]) C dX0_sureOn_9 rfl (by decide) rfl ?_
  refine nw_lconst (v := 0) C dX0_sureOn_10 (by decide) ?_
  refine nw_lstore (lv' := [(4, .long 0), (3, .int r6), (0, .ref (ad 6)), (1, .int p0), (2, .int p1)]) C dX0_sureOn_11 (by decide) rfl ?_
  refine nw_iconst (v := 0) C dX0_sureOn_13 (by decide) ?_
  refine nw_istore (lv' := [(6, .int 0), (4, .long 0), (3, .int r6), (0, .ref (ad 6)), (1, .int p0), (2, .int p1)]) C dX0_sureOn_14 (by decide) rfl ?_
  exact nw_lv (lv' := [(0, .ref (ad 6)), (1, .int p0), (2, .int p1), (3, .int r6), (4, .long 0), (6, .int 0)]) [3, 4, 5, 2, 1, 0] rfl (w_Claims_sureOn_16 C hr p0 p1 r6 (fun x3_ x4_ σ_ ta_ hφ_ hφ2_ h_ => w_Claims_sureOn_109 C hr x3_ x4_ σ_ ta_ hφ_ hφ2_ h_) FU 0 0 _ _ hφ hφ2 h)
theorem dX5_lives_0 : decode cX5_lives 0 = .ok (.aload_n 0, 1) := by decide +kernel
theorem dX5_lives_1 : decode cX5_lives 1 = .ok (.getfield 14, 3) := by decide +kernel
theorem dX5_lives_4 : decode cX5_lives 4 = .ok (.iload_n 1, 1) := by decide +kernel
theorem dX5_lives_5 : decode cX5_lives 5 = .ok (.invokevirtual 28, 3) := by decide +kernel
theorem dX5_lives_8 : decode cX5_lives 8 = .ok (.ifCond .eq 20, 3) := by decide +kernel
theorem dX5_lives_11 : decode cX5_lives 11 = .ok (.aload_n 0, 1) := by decide +kernel
theorem dX5_lives_12 : decode cX5_lives 12 = .ok (.getfield 14, 3) := by decide +kernel
theorem dX5_lives_15 : decode cX5_lives 15 = .ok (.iload_n 1, 1) := by decide +kernel
theorem dX5_lives_16 : decode cX5_lives 16 = .ok (.iconst 2, 1) := by decide +kernel
theorem dX5_lives_17 : decode cX5_lives 17 = .ok (.invokevirtual 32, 3) := by decide +kernel
theorem dX5_lives_20 : decode cX5_lives 20 = .ok (.iconst (-1), 1) := by decide +kernel
theorem dX5_lives_21 : decode cX5_lives 21 = .ok (.if_icmp .ne 7, 3) := by decide +kernel
theorem dX5_lives_24 : decode cX5_lives 24 = .ok (.iconst 1, 1) := by decide +kernel
theorem dX5_lives_25 : decode cX5_lives 25 = .ok (.goto 4, 3) := by decide +kernel
theorem dX5_lives_28 : decode cX5_lives 28 = .ok (.iconst 0, 1) := by decide +kernel
theorem dX5_lives_29 : decode cX5_lives 29 = .ok (.ireturn, 1) := by decide +kernel
def f_People_lives (p0 : Int32) (σ : CS) : Option (Int32 × CS) := bnd (f_Table_has 6 p0 σ) (fun r5 σ5 => if r5 = 0 then some (0, σ5) else bnd (f_Table_get 6 p0 2 σ5) (fun r17 σ17 => if r17 = (-1) then some (1, σ17) else some (0, σ17)))
set_option maxHeartbeats 4000000 in
set_option maxRecDepth 100000 in
theorem c_People_lives {l : Launch} {g : EG} {ad ta : Nat → Nat} {Rr : va_W} {σ σ' : CS} {r : Int32} {p0 : Int32}  (h : f_People_lives p0 σ = some (r, σ')) (hφ2 : ph σ.2.2 ≤ BB) : CtI l g yX5_lives (.code yX5_lives cX5_lives 2 (some .boolean)) 1 23 ad ta Rr σ [.ref (ad 5), .int p0] r σ' := by
  refine Ct.of rfl (by decide) (Nat.le_of_ble_eq_true rfl) ?_
  intro p e s m args below meth c A C hr
  have hφ : ph σ.2.2 ≤ ph σ.2.2 := Nat.le_refl _
  refine nw_zero (ph σ.2.2) ?_
  show NI g p l e s m args below meth c A 1 23 2 ad Rr (ph σ.2.2) (r, σ') ta σ [(0, .ref (ad 5)), (1, .int p0)] 0 []
  unfold f_People_lives at h
  refine nw_aload_n C dX5_lives_0 rfl 0 rfl ?_
  refine nw_get (v := .ref (ad 17)) C in_X5 5 cl_People rfl 0 (by decide) tw_312 rfl rfl dX5_lives_1 ?_
  refine nw_iload_n C dX5_lives_4 rfl 1 rfl ?_
  refine nc_callVI (q0 := 17) (As := [.int p0]) (rest := []) C h (fun _ _ e => c_Table_has 6 (by decide) e hφ2) tw_808 kv_X9_has (cl_T 6 (by decide)) rfl ⟨Nat.le_of_ble_eq_true rfl, Nat.le_of_ble_eq_true rfl⟩ rfl dX5_lives_5 rfl (Nat.le_of_ble_eq_true rfl) hφ hφ2 (fun r5 σ5 ta h hφ hφ2 => ?_)
  refine nw_if_eq (tgt := 28) C dX5_lives_8 (by decide) h (fun _ h => ?_) (fun _ h => ?_)
  · refine nw_iconst (v := 0) C dX5_lives_28 (by decide) ?_
    exact nc_zret C hr (Or.inl rfl) dX5_lives_29 hφ hφ2 h
  · refine nw_aload_n C dX5_lives_11 rfl 0 rfl ?_
    refine nw_get (v := .ref (ad 17)) C in_X5 5 cl_People rfl 0 (by decide) tw_312 rfl rfl dX5_lives_12 ?_
    refine nw_iload_n C dX5_lives_15 rfl 1 rfl ?_
    refine nw_iconst (v := 2) C dX5_lives_16 (by decide) ?_
    refine nc_callVI (q0 := 17) (As := [.int p0, .int 2]) (rest := []) C h (fun _ _ e => c_Table_get 6 (by decide) e hφ2) tw_812 kv_X9_get (cl_T 6 (by decide)) rfl ⟨Nat.le_of_ble_eq_true rfl, Nat.le_of_ble_eq_true rfl⟩ rfl dX5_lives_17 rfl (Nat.le_of_ble_eq_true rfl) hφ hφ2 (fun r17 σ17 ta h hφ hφ2 => ?_)
    refine nw_iconst (v := (-1)) C dX5_lives_20 (by decide) ?_
    refine nw_icmp_ne (tgt := 28) C dX5_lives_21 (by decide) h (fun _ h => ?_) (fun _ h => ?_)
    · refine nw_iconst (v := 1) C dX5_lives_24 (by decide) ?_
      refine nw_goto (tgt := 29) C dX5_lives_25 (by decide) ?_
      exact nc_zret C hr (Or.inr rfl) dX5_lives_29 hφ hφ2 h
    · refine nw_iconst (v := 0) C dX5_lives_28 (by decide) ?_
      exact nc_zret C hr (Or.inl rfl) dX5_lives_29 hφ hφ2 h
theorem dX5_heirOf_0 : decode cX5_heirOf 0 = .ok (.iload_n 1, 1) := by decide +kernel
theorem dX5_heirOf_1 : decode cX5_heirOf 1 = .ok (.istore_n 2, 1) := by decide +kernel
theorem dX5_heirOf_2 : decode cX5_heirOf 2 = .ok (.iconst 0, 1) := by decide +kernel
theorem dX5_heirOf_3 : decode cX5_heirOf 3 = .ok (.istore_n 3, 1) := by decide +kernel
theorem dX5_heirOf_4 : decode cX5_heirOf 4 = .ok (.iload_n 3, 1) := by decide +kernel
theorem dX5_heirOf_5 : decode cX5_heirOf 5 = .ok (.aload_n 0, 1) := by decide +kernel
theorem dX5_heirOf_6 : decode cX5_heirOf 6 = .ok (.getfield 14, 3) := by decide +kernel
theorem dX5_heirOf_9 : decode cX5_heirOf 9 = .ok (.invokevirtual 36, 3) := by decide +kernel
theorem dX5_heirOf_12 : decode cX5_heirOf 12 = .ok (.if_icmp .ge 41, 3) := by decide +kernel
theorem dX5_heirOf_15 : decode cX5_heirOf 15 = .ok (.aload_n 0, 1) := by decide +kernel
theorem dX5_heirOf_16 : decode cX5_heirOf 16 = .ok (.getfield 14, 3) := by decide +kernel
theorem dX5_heirOf_19 : decode cX5_heirOf 19 = .ok (.iload_n 2, 1) := by decide +kernel
theorem dX5_heirOf_20 : decode cX5_heirOf 20 = .ok (.iconst 3, 1) := by decide +kernel
theorem dX5_heirOf_21 : decode cX5_heirOf 21 = .ok (.invokevirtual 32, 3) := by decide +kernel
theorem dX5_heirOf_24 : decode cX5_heirOf 24 = .ok (.istore_n 2, 1) := by decide +kernel
theorem dX5_heirOf_25 : decode cX5_heirOf 25 = .ok (.iload_n 2, 1) := by decide +kernel
theorem dX5_heirOf_26 : decode cX5_heirOf 26 = .ok (.iload_n 1, 1) := by decide +kernel
theorem dX5_heirOf_27 : decode cX5_heirOf 27 = .ok (.if_icmp .ne 5, 3) := by decide +kernel
theorem dX5_heirOf_30 : decode cX5_heirOf 30 = .ok (.iconst (-1), 1) := by decide +kernel
theorem dX5_heirOf_31 : decode cX5_heirOf 31 = .ok (.ireturn, 1) := by decide +kernel
theorem dX5_heirOf_32 : decode cX5_heirOf 32 = .ok (.iload_n 2, 1) := by decide +kernel
theorem dX5_heirOf_33 : decode cX5_heirOf 33 = .ok (.iconst (-1), 1) := by decide +kernel
theorem dX5_heirOf_34 : decode cX5_heirOf 34 = .ok (.if_icmp .eq 11, 3) := by decide +kernel
theorem dX5_heirOf_37 : decode cX5_heirOf 37 = .ok (.aload_n 0, 1) := by decide +kernel
theorem dX5_heirOf_38 : decode cX5_heirOf 38 = .ok (.iload_n 2, 1) := by decide +kernel
theorem dX5_heirOf_39 : decode cX5_heirOf 39 = .ok (.invokevirtual 39, 3) := by decide +kernel
theorem dX5_heirOf_42 : decode cX5_heirOf 42 = .ok (.ifCond .eq 5, 3) := by decide +kernel
theorem dX5_heirOf_45 : decode cX5_heirOf 45 = .ok (.iload_n 2, 1) := by decide +kernel
theorem dX5_heirOf_46 : decode cX5_heirOf 46 = .ok (.ireturn, 1) := by decide +kernel
theorem dX5_heirOf_47 : decode cX5_heirOf 47 = .ok (.iinc 3 1, 3) := by decide +kernel
theorem dX5_heirOf_50 : decode cX5_heirOf 50 = .ok (.goto (-46), 3) := by decide +kernel
theorem dX5_heirOf_53 : decode cX5_heirOf 53 = .ok (.iconst (-1), 1) := by decide +kernel
theorem dX5_heirOf_54 : decode cX5_heirOf 54 = .ok (.ireturn, 1) := by decide +kernel
def L_People_heirOf_4  (x1 : Int32) : Nat → Int32 → Int32 → CS → Option (Int32 × CS)
  | 0, _, _, _ => none
  | n + 1, x2, x3, σ => bnd (f_Table_size 6 σ) (fun r9 σ9 => if r9 ≤ x3 then some ((-1), σ9) else bnd (f_Table_get 6 x2 3 σ9) (fun r21 σ21 => if r21 = x1 then some ((-1), σ21) else if r21 = (-1) then some (r21, σ21) else bnd (f_People_lives r21 σ21) (fun r39 σ39 => if r39 = 0 then (L_People_heirOf_4 x1 n) r21 (x3 + 1) σ39 else some (r21, σ39))))
set_option maxHeartbeats 4000000 in
set_option maxRecDepth 100000 in
theorem w_People_heirOf_4 (C : Cx g p s m args meth c A 4 cX5_heirOf yX5_heirOf.cls) (hr : meth.sig.returnType = (some .int))  {res : Int32 × CS}  (x1 : Int32)  : ∀ (n : Nat) (x2 : Int32) (x3 : Int32) (σ : CS) (ta : Nat → Nat), φ0 ≤ ph σ.2.2 → ph σ.2.2 ≤ BB → L_People_heirOf_4 x1 n x2 x3 σ = some res → NI g p l e s m args below meth c A 2 44 4 ad Rr φ0 res ta σ [(0, .ref (ad 5)), (1, .int x1), (2, .int x2), (3, .int x3)] 4 [] := by
  intro n
  induction n with
  | zero =>
    intro x2 x3 σ ta hφ hφ2 h
    exact absurd (show (none : Option (Int32 × CS)) = some res from h) (by intro h9; cases h9)
  | succ n ih =>
    intro x2 x3 σ ta hφ hφ2 h
    rw [L_People_heirOf_4] at h
    refine nw_iload_n C dX5_heirOf_4 rfl 3 rfl ?_
    refine nw_aload_n C dX5_heirOf_5 rfl 0 rfl ?_
    refine nw_get (v := .ref (ad 17)) C in_X5 5 cl_People rfl 0 (by decide) tw_312 rfl rfl dX5_heirOf_6 ?_
    refine nc_callVI (q0 := 17) (As := []) (rest := [.int x3]) C h (fun _ _ e => c_Table_size 6 (by decide) e hφ2) tw_817 kv_X9_size (cl_T 6 (by decide)) rfl ⟨Nat.le_of_ble_eq_true rfl, Nat.le_of_ble_eq_true rfl⟩ rfl dX5_heirOf_9 rfl (Nat.le_of_ble_eq_true rfl) hφ hφ2 (fun r9 σ9 ta h hφ hφ2 => ?_)
    refine nw_icmp_ge (tgt := 53) C dX5_heirOf_12 (by decide) h (fun _ h => ?_) (fun _ h => ?_)
    · refine nw_iconst (v := (-1)) C dX5_heirOf_53 (by decide) ?_
      exact nc_iret C hr dX5_heirOf_54 hφ hφ2 h
    · refine nw_aload_n C dX5_heirOf_15 rfl 0 rfl ?_
      refine nw_get (v := .ref (ad 17)) C in_X5 5 cl_People rfl 0 (by decide) tw_312 rfl rfl dX5_heirOf_16 ?_
      refine nw_iload_n C dX5_heirOf_19 rfl 2 rfl ?_
      refine nw_iconst (v := 3) C dX5_heirOf_20 (by decide) ?_
      refine nc_callVI (q0 := 17) (As := [.int x2, .int 3]) (rest := []) C h (fun _ _ e => c_Table_get 6 (by decide) e hφ2) tw_812 kv_X9_get (cl_T 6 (by decide)) rfl ⟨Nat.le_of_ble_eq_true rfl, Nat.le_of_ble_eq_true rfl⟩ rfl dX5_heirOf_21 rfl (Nat.le_of_ble_eq_true rfl) hφ hφ2 (fun r21 σ21 ta h hφ hφ2 => ?_)
      refine nw_istore_n (lv' := [(2, .int r21), (0, .ref (ad 5)), (1, .int x1), (3, .int x3)]) C dX5_heirOf_24 rfl (by decide) rfl ?_
      refine nw_iload_n C dX5_heirOf_25 rfl 0 rfl ?_
      refine nw_iload_n C dX5_heirOf_26 rfl 2 rfl ?_
      refine nw_icmp_ne (tgt := 32) C dX5_heirOf_27 (by decide) h (fun _ h => ?_) (fun _ h => ?_)
      · refine nw_iconst (v := (-1)) C dX5_heirOf_30 (by decide) ?_
        exact nc_iret C hr dX5_heirOf_31 hφ hφ2 h
      · refine nw_iload_n C dX5_heirOf_32 rfl 0 rfl ?_
        refine nw_iconst (v := (-1)) C dX5_heirOf_33 (by decide) ?_
        refine nw_icmp_eq (tgt := 45) C dX5_heirOf_34 (by decide) h (fun _ h => ?_) (fun _ h => ?_)
        · refine nw_iload_n C dX5_heirOf_45 rfl 0 rfl ?_
          exact nc_iret C hr dX5_heirOf_46 hφ hφ2 h
        · refine nw_aload_n C dX5_heirOf_37 rfl 1 rfl ?_
          refine nw_iload_n C dX5_heirOf_38 rfl 0 rfl ?_
          refine nc_callVI (q0 := 5) (As := [.int r21]) (rest := []) C h (fun _ _ e => c_People_lives e hφ2) tw_818 kv_X5_lives cl_People rfl ⟨Nat.le_of_ble_eq_true rfl, Nat.le_of_ble_eq_true rfl⟩ rfl dX5_heirOf_39 rfl (Nat.le_of_ble_eq_true rfl) hφ hφ2 (fun r39 σ39 ta h hφ hφ2 => ?_)
          refine nw_if_eq (tgt := 47) C dX5_heirOf_42 (by decide) h (fun _ h => ?_) (fun _ h => ?_)
          · refine nw_iinc (lv' := [(3, .int (x3 + 1)), (2, .int r21), (0, .ref (ad 5)), (1, .int x1)]) C (x3 + 1) dX5_heirOf_47 3 rfl rfl (by decide) rfl ?_
            refine nw_goto (tgt := 4) C dX5_heirOf_50 (by decide) ?_
            exact nw_lv (lv' := [(0, .ref (ad 5)), (1, .int x1), (2, .int r21), (3, .int (x3 + 1))]) [2, 3, 1, 0] rfl (ih r21 (x3 + 1) _ _ hφ hφ2 h)
          · refine nw_iload_n C dX5_heirOf_45 rfl 0 rfl ?_
            exact nc_iret C hr dX5_heirOf_46 hφ hφ2 h
def f_People_heirOf (p0 : Int32) (σ : CS) : Option (Int32 × CS) := L_People_heirOf_4 p0 FU p0 0 σ
set_option maxHeartbeats 4000000 in
set_option maxRecDepth 100000 in
theorem c_People_heirOf {l : Launch} {g : EG} {ad ta : Nat → Nat} {Rr : va_W} {σ σ' : CS} {r : Int32} {p0 : Int32}  (h : f_People_heirOf p0 σ = some (r, σ')) (hφ2 : ph σ.2.2 ≤ BB) : CtI l g yX5_heirOf (.code yX5_heirOf cX5_heirOf 4 (some .int)) 2 44 ad ta Rr σ [.ref (ad 5), .int p0] r σ' := by
  refine Ct.of rfl (by decide) (Nat.le_of_ble_eq_true rfl) ?_
  intro p e s m args below meth c A C hr
  have hφ : ph σ.2.2 ≤ ph σ.2.2 := Nat.le_refl _
  refine nw_zero (ph σ.2.2) ?_
  show NI g p l e s m args below meth c A 2 44 4 ad Rr (ph σ.2.2) (r, σ') ta σ [(0, .ref (ad 5)), (1, .int p0)] 0 []
  unfold f_People_heirOf at h
  refine nw_iload_n C dX5_heirOf_0 rfl 1 rfl ?_
  refine nw_istore_n (lv' := [(2, .int p0), (0, .ref (ad 5)), (1, .int p0)]) C dX5_heirOf_1 rfl (by decide) rfl ?_
  refine nw_iconst (v := 0) C dX5_heirOf_2 (by decide) ?_
  refine nw_istore_n (lv' := [(3, .int 0), (2, .int p0), (0, .ref (ad 5)), (1, .int p0)]) C dX5_heirOf_3 rfl (by decide) rfl ?_
  exact nw_lv (lv' := [(0, .ref (ad 5)), (1, .int p0), (2, .int p0), (3, .int 0)]) [2, 3, 1, 0] rfl (w_People_heirOf_4 C hr p0 FU p0 0 _ _ hφ hφ2 h)
theorem dX0_isHeldBy_0 : decode cX0_isHeldBy 0 = .ok (.aload_n 0, 1) := by decide +kernel
theorem dX0_isHeldBy_1 : decode cX0_isHeldBy 1 = .ok (.getfield 24, 3) := by decide +kernel
theorem dX0_isHeldBy_4 : decode cX0_isHeldBy 4 = .ok (.iload_n 1, 1) := by decide +kernel
theorem dX0_isHeldBy_5 : decode cX0_isHeldBy 5 = .ok (.iconst 0, 1) := by decide +kernel
theorem dX0_isHeldBy_6 : decode cX0_isHeldBy 6 = .ok (.invokevirtual 39, 3) := by decide +kernel
theorem dX0_isHeldBy_9 : decode cX0_isHeldBy 9 = .ok (.istore_n 3, 1) := by decide +kernel
theorem dX0_isHeldBy_10 : decode cX0_isHeldBy 10 = .ok (.iload_n 3, 1) := by decide +kernel
theorem dX0_isHeldBy_11 : decode cX0_isHeldBy 11 = .ok (.iload_n 2, 1) := by decide +kernel
theorem dX0_isHeldBy_12 : decode cX0_isHeldBy 12 = .ok (.if_icmp .eq 26, 3) := by decide +kernel
theorem dX0_isHeldBy_15 : decode cX0_isHeldBy 15 = .ok (.aload_n 0, 1) := by decide +kernel
theorem dX0_isHeldBy_16 : decode cX0_isHeldBy 16 = .ok (.getfield 9, 3) := by decide +kernel
theorem dX0_isHeldBy_19 : decode cX0_isHeldBy 19 = .ok (.iload_n 3, 1) := by decide +kernel
theorem dX0_isHeldBy_20 : decode cX0_isHeldBy 20 = .ok (.invokevirtual 72, 3) := by decide +kernel
theorem dX0_isHeldBy_23 : decode cX0_isHeldBy 23 = .ok (.ifCond .ne 19, 3) := by decide +kernel
theorem dX0_isHeldBy_26 : decode cX0_isHeldBy 26 = .ok (.aload_n 0, 1) := by decide +kernel
theorem dX0_isHeldBy_27 : decode cX0_isHeldBy 27 = .ok (.getfield 9, 3) := by decide +kernel
theorem dX0_isHeldBy_30 : decode cX0_isHeldBy 30 = .ok (.iload_n 3, 1) := by decide +kernel
theorem dX0_isHeldBy_31 : decode cX0_isHeldBy 31 = .ok (.invokevirtual 78, 3) := by decide +kernel
theorem dX0_isHeldBy_34 : decode cX0_isHeldBy 34 = .ok (.iload_n 2, 1) := by decide +kernel
theorem dX0_isHeldBy_35 : decode cX0_isHeldBy 35 = .ok (.if_icmp .ne 7, 3) := by decide +kernel
theorem dX0_isHeldBy_38 : decode cX0_isHeldBy 38 = .ok (.iconst 1, 1) := by decide +kernel
theorem dX0_isHeldBy_39 : decode cX0_isHeldBy 39 = .ok (.goto 4, 3) := by decide +kernel
theorem dX0_isHeldBy_42 : decode cX0_isHeldBy 42 = .ok (.iconst 0, 1) := by decide +kernel
theorem dX0_isHeldBy_43 : decode cX0_isHeldBy 43 = .ok (.ireturn, 1) := by decide +kernel
def f_Claims_isHeldBy (p0 : Int32) (p1 : Int32) (σ : CS) : Option (Int32 × CS) := bnd (f_Table_get 7 p0 0 σ) (fun r6 σ6 => if r6 = p1 then some (1, σ6) else bnd (f_People_lives r6 σ6) (fun r20 σ20 => if r20 = 0 then bnd (f_People_heirOf r6 σ20) (fun r31 σ31 => if r31 = p1 then some (1, σ31) else some (0, σ31)) else some (0, σ20)))
set_option maxHeartbeats 4000000 in
set_option maxRecDepth 100000 in
theorem c_Claims_isHeldBy {l : Launch} {g : EG} {ad ta : Nat → Nat} {Rr : va_W} {σ σ' : CS} {r : Int32} {p0 : Int32} {p1 : Int32}  (h : f_Claims_isHeldBy p0 p1 σ = some (r, σ')) (hφ2 : ph σ.2.2 ≤ BB) : CtI l g yX0_isHeldBy (.code yX0_isHeldBy cX0_isHeldBy 4 (some .boolean)) 3 67 ad ta Rr σ [.ref (ad 6), .int p0, .int p1] r σ' := by
  refine Ct.of rfl (by decide) (Nat.le_of_ble_eq_true rfl) ?_
  intro p e s m args below meth c A C hr
  have hφ : ph σ.2.2 ≤ ph σ.2.2 := Nat.le_refl _
  refine nw_zero (ph σ.2.2) ?_
  show NI g p l e s m args below meth c A 3 67 4 ad Rr (ph σ.2.2) (r, σ') ta σ [(0, .ref (ad 6)), (1, .int p0), (2, .int p1)] 0 []
  unfold f_Claims_isHeldBy at h
  refine nw_aload_n C dX0_isHeldBy_0 rfl 0 rfl ?_
  refine nw_get (v := .ref (ad 18)) C in_X0 6 cl_Claims rfl 0 (by decide) tw_326 rfl rfl dX0_isHeldBy_1 ?_
  refine nw_iload_n C dX0_isHeldBy_4 rfl 1 rfl ?_
  refine nw_iconst (v := 0) C dX0_isHeldBy_5 (by decide) ?_
  refine nc_callVI (q0 := 18) (As := [.int p0, .int 0]) (rest := []) C h (fun _ _ e => c_Table_get 7 (by decide) e hφ2) tw_1343 kv_X9_get (cl_T 7 (by decide)) rfl ⟨Nat.le_of_ble_eq_true rfl, Nat.le_of_ble_eq_true rfl⟩ rfl dX0_isHeldBy_6 rfl (Nat.le_of_ble_eq_true rfl) hφ hφ2 (fun r6 σ6 ta h hφ hφ2 => ?_)
  refine nw_istore_n (lv' := [(3, .int r6), (0, .ref (ad 6)), (1, .int p0), (2, .int p1)]) C dX0_isHeldBy_9 rfl (by decide) rfl ?_
  refine nw_iload_n C dX0_isHeldBy_10 rfl 0 rfl ?_
  refine nw_iload_n C dX0_isHeldBy_11 rfl 3 rfl ?_
  refine nw_icmp_eq (tgt := 38) C dX0_isHeldBy_12 (by decide) h (fun _ h => ?_) (fun _ h => ?_)
  · refine nw_iconst (v := 1) C dX0_isHeldBy_38 (by decide) ?_
    refine nw_goto (tgt := 43) C dX0_isHeldBy_39 (by decide) ?_
    exact nc_zret C hr (Or.inr rfl) dX0_isHeldBy_43 hφ hφ2 h
  · refine nw_aload_n C dX0_isHeldBy_15 rfl 1 rfl ?_
    refine nw_get (v := .ref (ad 5)) C in_X0 6 cl_Claims rfl 2 (by decide) tw_329 rfl rfl dX0_isHeldBy_16 ?_
    refine nw_iload_n C dX0_isHeldBy_19 rfl 0 rfl ?_
    refine nc_callVI (q0 := 5) (As := [.int r6]) (rest := []) C h (fun _ _ e => c_People_lives e hφ2) tw_1349 kv_X5_lives cl_People rfl ⟨Nat.le_of_ble_eq_true rfl, Nat.le_of_ble_eq_true rfl⟩ rfl dX0_isHeldBy_20 rfl (Nat.le_of_ble_eq_true rfl) hφ hφ2 (fun r20 σ20 ta h hφ hφ2 => ?_)
    refine nw_if_ne (tgt := 42) C dX0_isHeldBy_23 (by decide) h (fun _ h => ?_) (fun _ h => ?_)
    · refine nw_aload_n C dX0_isHeldBy_26 rfl 1 rfl ?_
      refine nw_get (v := .ref (ad 5)) C in_X0 6 cl_Claims rfl 2 (by decide) tw_329 rfl rfl dX0_isHeldBy_27 ?_
      refine nw_iload_n C dX0_isHeldBy_30 rfl 0 rfl ?_
      refine nc_callVI (q0 := 5) (As := [.int r6]) (rest := []) C h (fun _ _ e => c_People_heirOf e hφ2) tw_1350 kv_X5_heirOf cl_People rfl ⟨Nat.le_of_ble_eq_true rfl, Nat.le_of_ble_eq_true rfl⟩ rfl dX0_isHeldBy_31 rfl (Nat.le_of_ble_eq_true rfl) hφ hφ2 (fun r31 σ31 ta h hφ hφ2 => ?_)
      refine nw_iload_n C dX0_isHeldBy_34 rfl 3 rfl ?_
      refine nw_icmp_ne (tgt := 42) C dX0_isHeldBy_35 (by decide) h (fun _ h => ?_) (fun _ h => ?_)
      · refine nw_iconst (v := 1) C dX0_isHeldBy_38 (by decide) ?_
        refine nw_goto (tgt := 43) C dX0_isHeldBy_39 (by decide) ?_
        exact nc_zret C hr (Or.inr rfl) dX0_isHeldBy_43 hφ hφ2 h
      · refine nw_iconst (v := 0) C dX0_isHeldBy_42 (by decide) ?_
        exact nc_zret C hr (Or.inl rfl) dX0_isHeldBy_43 hφ hφ2 h
    · refine nw_iconst (v := 0) C dX0_isHeldBy_42 (by decide) ?_
      exact nc_zret C hr (Or.inl rfl) dX0_isHeldBy_43 hφ hφ2 h
theorem dX0_allows_0 : decode cX0_allows 0 = .ok (.iconst 0, 1) := by decide +kernel
theorem dX0_allows_1 : decode cX0_allows 1 = .ok (.istore 6, 2) := by decide +kernel
theorem dX0_allows_3 : decode cX0_allows 3 = .ok (.iload 6, 2) := by decide +kernel
theorem dX0_allows_5 : decode cX0_allows 5 = .ok (.aload_n 0, 1) := by decide +kernel
theorem dX0_allows_6 : decode cX0_allows 6 = .ok (.getfield 24, 3) := by decide +kernel
theorem dX0_allows_9 : decode cX0_allows 9 = .ok (.invokevirtual 52, 3) := by decide +kernel
theorem dX0_allows_12 : decode cX0_allows 12 = .ok (.if_icmp .ge 90, 3) := by decide +kernel
theorem dX0_allows_15 : decode cX0_allows 15 = .ok (.iload_n 3, 1) := by decide +kernel
theorem dX0_allows_16 : decode cX0_allows 16 = .ok (.iload 4, 2) := by decide +kernel
theorem dX0_allows_18 : decode cX0_allows 18 = .ok (.aload_n 0, 1) := by decide +kernel
theorem dX0_allows_19 : decode cX0_allows 19 = .ok (.getfield 24, 3) := by decide +kernel
theorem dX0_allows_22 : decode cX0_allows 22 = .ok (.iload 6, 2) := by decide +kernel
theorem dX0_allows_24 : decode cX0_allows 24 = .ok (.iconst 2, 1) := by decide +kernel
theorem dX0_allows_25 : decode cX0_allows 25 = .ok (.invokevirtual 39, 3) := by decide +kernel
theorem dX0_allows_28 : decode cX0_allows 28 = .ok (.aload_n 0, 1) := by decide +kernel
theorem dX0_allows_29 : decode cX0_allows 29 = .ok (.getfield 24, 3) := by decide +kernel
theorem dX0_allows_32 : decode cX0_allows 32 = .ok (.iload 6, 2) := by decide +kernel
theorem dX0_allows_34 : decode cX0_allows 34 = .ok (.iconst 3, 1) := by decide +kernel
theorem dX0_allows_35 : decode cX0_allows 35 = .ok (.invokevirtual 39, 3) := by decide +kernel
theorem dX0_allows_38 : decode cX0_allows 38 = .ok (.invokestatic 61, 3) := by decide +kernel
theorem dX0_allows_41 : decode cX0_allows 41 = .ok (.bipush 20, 2) := by decide +kernel
theorem dX0_allows_43 : decode cX0_allows 43 = .ok (.if_icmp .gt 7, 3) := by decide +kernel
theorem dX0_allows_46 : decode cX0_allows 46 = .ok (.iconst 1, 1) := by decide +kernel
theorem dX0_allows_47 : decode cX0_allows 47 = .ok (.goto 4, 3) := by decide +kernel
theorem dX0_allows_50 : decode cX0_allows 50 = .ok (.iconst 0, 1) := by decide +kernel
theorem dX0_allows_51 : decode cX0_allows 51 = .ok (.istore 7, 2) := by decide +kernel
theorem dX0_allows_53 : decode cX0_allows 53 = .ok (.iload 7, 2) := by decide +kernel
theorem dX0_allows_55 : decode cX0_allows 55 = .ok (.ifCond .eq 41, 3) := by decide +kernel
theorem dX0_allows_58 : decode cX0_allows 58 = .ok (.aload_n 0, 1) := by decide +kernel
theorem dX0_allows_59 : decode cX0_allows 59 = .ok (.getfield 24, 3) := by decide +kernel
theorem dX0_allows_62 : decode cX0_allows 62 = .ok (.iload 6, 2) := by decide +kernel
theorem dX0_allows_64 : decode cX0_allows 64 = .ok (.iconst 1, 1) := by decide +kernel
theorem dX0_allows_65 : decode cX0_allows 65 = .ok (.invokevirtual 39, 3) := by decide +kernel
theorem dX0_allows_68 : decode cX0_allows 68 = .ok (.iload_n 2, 1) := by decide +kernel
theorem dX0_allows_69 : decode cX0_allows 69 = .ok (.if_icmp .ne 27, 3) := by decide +kernel
theorem dX0_allows_72 : decode cX0_allows 72 = .ok (.aload_n 0, 1) := by decide +kernel
theorem dX0_allows_73 : decode cX0_allows 73 = .ok (.iload 6, 2) := by decide +kernel
theorem dX0_allows_75 : decode cX0_allows 75 = .ok (.iload_n 1, 1) := by decide +kernel
theorem dX0_allows_76 : decode cX0_allows 76 = .ok (.invokevirtual 65, 3) := by decide +kernel
theorem dX0_allows_79 : decode cX0_allows 79 = .ok (.ifCond .eq 17, 3) := by decide +kernel
theorem dX0_allows_82 : decode cX0_allows 82 = .ok (.aload_n 0, 1) := by decide +kernel
theorem dX0_allows_83 : decode cX0_allows 83 = .ok (.iload 6, 2) := by decide +kernel
theorem dX0_allows_85 : decode cX0_allows 85 = .ok (.iload 5, 2) := by decide +kernel
theorem dX0_allows_87 : decode cX0_allows 87 = .ok (.invokevirtual 69, 3) := by decide +kernel
theorem dX0_allows_90 : decode cX0_allows 90 = .ok (.iconst 2, 1) := by decide +kernel
theorem dX0_allows_91 : decode cX0_allows 91 = .ok (.if_icmp .ne 5, 3) := by decide +kernel
theorem dX0_allows_94 : decode cX0_allows 94 = .ok (.iconst 1, 1) := by decide +kernel
theorem dX0_allows_95 : decode cX0_allows 95 = .ok (.ireturn, 1) := by decide +kernel
theorem dX0_allows_96 : decode cX0_allows 96 = .ok (.iinc 6 1, 3) := by decide +kernel
theorem dX0_allows_99 : decode cX0_allows 99 = .ok (.goto (-96), 3) := by decide +kernel
theorem dX0_allows_102 : decode cX0_allows 102 = .ok (.iconst 0, 1) := by decide +kernel
theorem dX0_allows_103 : decode cX0_allows 103 = .ok (.ireturn, 1) := by decide +kernel
def B_Claims_allows_51 (k3 : Int32 → CS → Option (Int32 × CS)) (x1 : Int32) (x2 : Int32) (x3 : Int32) (x4 : Int32) (x5 : Int32) (x6 : Int32) (z0 : Int32) (σ : CS) : Option (Int32 × CS) := if z0 = 0 then k3 (x6 + 1) σ else bnd (f_Table_get 7 x6 1 σ) (fun r65 σ65 => if r65 = x2 then bnd (f_Claims_isHeldBy x6 x1 σ65) (fun r76 σ76 => if r76 = 0 then k3 (x6 + 1) σ76 else bnd (f_Claims_sureOn x6 x5 σ76) (fun r87 σ87 => if r87 = 2 then some (1, σ87) else k3 (x6 + 1) σ87)) else k3 (x6 + 1) σ65)
set_option maxHeartbeats 4000000 in
set_option maxRecDepth 100000 in
theorem w_Claims_allows_51 (C : Cx g p s m args meth c A 8 cX0_allows yX0_allows.cls) (hr : meth.sig.returnType = (some .boolean))  {res : Int32 × CS}  (x1 : Int32) (x2 : Int32) (x3 : Int32) (x4 : Int32) (x5 : Int32) (x6 : Int32) (z0 : Int32) {k3 : Int32 → CS → Option (Int32 × CS)} (hk3 : ∀ (x6 : Int32) (σ : CS) (ta : Nat → Nat), φ0 ≤ ph σ.2.2 → ph σ.2.2 ≤ BB → k3 x6 σ = some res → NI g p l e s m args below meth c A 4 99 8 ad Rr φ0 res ta σ [(0, .ref (ad 6)), (1, .int x1), (2, .int x2), (3, .int x3), (4, .int x4), (5, .int x5), (6, .int x6)] 3 []) (σ : CS) (ta : Nat → Nat) (hφ : φ0 ≤ ph σ.2.2) (hφ2 : ph σ.2.2 ≤ BB) (h : B_Claims_allows_51 k3 x1 x2 x3 x4 x5 x6 z0 σ = some res) : NI g p l e s m args below meth c A 4 99 8 ad Rr φ0 res ta σ [(0, .ref (ad 6)), (1, .int x1), (2, .int x2), (3, .int x3), (4, .int x4), (5, .int x5), (6, .int x6)] 51 [.int z0] := by
  unfold B_Claims_allows_51 at h
  refine nw_istore (lv' := [(7, .int z0), (0, .ref (ad 6)), (1, .int x1), (2, .int x2), (3, .int x3), (4, .int x4), (5, .int x5), (6, .int x6)]) C dX0_allows_51 (by decide) rfl ?_
  refine nw_iload C dX0_allows_53 0 rfl ?_
  refine nw_if_eq (tgt := 96) C dX0_allows_55 (by decide) h (fun _ h => ?_) (fun _ h => ?_)
  · refine nw_iinc (lv' := [(6, .int (x6 + 1)), (7, .int z0), (0, .ref (ad 6)), (1, .int x1), (2, .int x2), (3, .int x3), (4, .int x4), (5, .int x5)]) C (x6 + 1) dX0_allows_96 7 rfl rfl (by decide) rfl ?_
    refine nw_goto (tgt := 3) C dX0_allows_99 (by decide) ?_
    exact nw_lv (lv' := [(0, .ref (ad 6)), (1, .int x1), (2, .int x2), (3, .int x3), (4, .int x4), (5, .int x5), (6, .int (x6 + 1))]) [2, 3, 4, 5, 6, 7, 0] rfl (hk3 (x6 + 1) _ _ hφ hφ2 h)
  · refine nw_aload_n C dX0_allows_58 rfl 1 rfl ?_
    refine nw_get (v := .ref (ad 18)) C in_X0 6 cl_Claims rfl 0 (by decide) tw_326 rfl rfl dX0_allows_59 ?_
    refine nw_iload C dX0_allows_62 7 rfl ?_
    refine nw_iconst (v := 1) C dX0_allows_64 (by decide) ?_
    refine nc_callVI (q0 := 18) (As := [.int x6, .int 1]) (rest := []) C h (fun _ _ e => c_Table_get 7 (by decide) e hφ2) tw_1343 kv_X9_get (cl_T 7 (by decide)) rfl ⟨Nat.le_of_ble_eq_true rfl, Nat.le_of_ble_eq_true rfl⟩ rfl dX0_allows_65 rfl (Nat.le_of_ble_eq_true rfl) hφ hφ2 (fun r65 σ65 ta h hφ hφ2 => ?_)
    refine nw_iload_n C dX0_allows_68 rfl 3 rfl ?_
    refine nw_icmp_ne (tgt := 96) C dX0_allows_69 (by decide) h (fun _ h => ?_) (fun _ h => ?_)
    · refine nw_aload_n C dX0_allows_72 rfl 1 rfl ?_
      refine nw_iload C dX0_allows_73 7 rfl ?_
      refine nw_iload_n C dX0_allows_75 rfl 2 rfl ?_
      refine nc_callVI (q0 := 6) (As := [.int x6, .int x1]) (rest := []) C h (fun _ _ e => c_Claims_isHeldBy e hφ2) tw_1345 kv_X0_isHeldBy cl_Claims rfl ⟨Nat.le_of_ble_eq_true rfl, Nat.le_of_ble_eq_true rfl⟩ rfl dX0_allows_76 rfl (Nat.le_of_ble_eq_true rfl) hφ hφ2 (fun r76 σ76 ta h hφ hφ2 => ?_)
      refine nw_if_eq (tgt := 96) C dX0_allows_79 (by decide) h (fun _ h => ?_) (fun _ h => ?_)
      · refine nw_iinc (lv' := [(6, .int (x6 + 1)), (7, .int z0), (0, .ref (ad 6)), (1, .int x1), (2, .int x2), (3, .int x3), (4, .int x4), (5, .int x5)]) C (x6 + 1) dX0_allows_96 7 rfl rfl (by decide) rfl ?_
        refine nw_goto (tgt := 3) C dX0_allows_99 (by decide) ?_
        exact nw_lv (lv' := [(0, .ref (ad 6)), (1, .int x1), (2, .int x2), (3, .int x3), (4, .int x4), (5, .int x5), (6, .int (x6 + 1))]) [2, 3, 4, 5, 6, 7, 0] rfl (hk3 (x6 + 1) _ _ hφ hφ2 h)
      · refine nw_aload_n C dX0_allows_82 rfl 1 rfl ?_
        refine nw_iload C dX0_allows_83 7 rfl ?_
        refine nw_iload C dX0_allows_85 6 rfl ?_
        refine nc_callVI (q0 := 6) (As := [.int x6, .int x5]) (rest := []) C h (fun _ _ e => c_Claims_sureOn e hφ2) tw_1351 kv_X0_sureOn cl_Claims rfl ⟨Nat.le_of_ble_eq_true rfl, Nat.le_of_ble_eq_true rfl⟩ rfl dX0_allows_87 rfl (Nat.le_of_ble_eq_true rfl) hφ hφ2 (fun r87 σ87 ta h hφ hφ2 => ?_)
        refine nw_iconst (v := 2) C dX0_allows_90 (by decide) ?_
        refine nw_icmp_ne (tgt := 96) C dX0_allows_91 (by decide) h (fun _ h => ?_) (fun _ h => ?_)
        · refine nw_iconst (v := 1) C dX0_allows_94 (by decide) ?_
          exact nc_zret C hr (Or.inr rfl) dX0_allows_95 hφ hφ2 h
        · refine nw_iinc (lv' := [(6, .int (x6 + 1)), (7, .int z0), (0, .ref (ad 6)), (1, .int x1), (2, .int x2), (3, .int x3), (4, .int x4), (5, .int x5)]) C (x6 + 1) dX0_allows_96 7 rfl rfl (by decide) rfl ?_
          refine nw_goto (tgt := 3) C dX0_allows_99 (by decide) ?_
          exact nw_lv (lv' := [(0, .ref (ad 6)), (1, .int x1), (2, .int x2), (3, .int x3), (4, .int x4), (5, .int x5), (6, .int (x6 + 1))]) [2, 3, 4, 5, 6, 7, 0] rfl (hk3 (x6 + 1) _ _ hφ hφ2 h)
    · refine nw_iinc (lv' := [(6, .int (x6 + 1)), (7, .int z0), (0, .ref (ad 6)), (1, .int x1), (2, .int x2), (3, .int x3), (4, .int x4), (5, .int x5)]) C (x6 + 1) dX0_allows_96 7 rfl rfl (by decide) rfl ?_
      refine nw_goto (tgt := 3) C dX0_allows_99 (by decide) ?_
      exact nw_lv (lv' := [(0, .ref (ad 6)), (1, .int x1), (2, .int x2), (3, .int x3), (4, .int x4), (5, .int x5), (6, .int (x6 + 1))]) [2, 3, 4, 5, 6, 7, 0] rfl (hk3 (x6 + 1) _ _ hφ hφ2 h)
def L_Claims_allows_3  (x1 : Int32) (x2 : Int32) (x3 : Int32) (x4 : Int32) (x5 : Int32) : Nat → Int32 → CS → Option (Int32 × CS)
  | 0, _, _ => none
  | n + 1, x6, σ => bnd (f_Table_size 7 σ) (fun r9 σ9 => if r9 ≤ x6 then some (0, σ9) else bnd (f_Table_get 7 x6 2 σ9) (fun r25 σ25 => bnd (f_Table_get 7 x6 3 σ25) (fun r35 σ35 => bnd (f_FC_wayBetween x3 x4 r25 r35 σ35) (fun r38 σ38 => if 20 < r38 then B_Claims_allows_51 (L_Claims_allows_3 x1 x2 x3 x4 x5 n) x1 x2 x3 x4 x5 x6 0 σ38 else B_Claims_allows_51 (L_Claims_allows_3 x1 x2 x3 x4 x5 n) x1 x2 x3 x4 x5 x6 1 σ38))))
set_option maxHeartbeats 4000000 in
set_option maxRecDepth 100000 in
theorem w_Claims_allows_3 (C : Cx g p s m args meth c A 8 cX0_allows yX0_allows.cls) (hr : meth.sig.returnType = (some .boolean))  {res : Int32 × CS}  (x1 : Int32) (x2 : Int32) (x3 : Int32) (x4 : Int32) (x5 : Int32)  : ∀ (n : Nat) (x6 : Int32) (σ : CS) (ta : Nat → Nat), φ0 ≤ ph σ.2.2 → ph σ.2.2 ≤ BB → L_Claims_allows_3 x1 x2 x3 x4 x5 n x6 σ = some res → NI g p l e s m args below meth c A 4 99 8 ad Rr φ0 res ta σ [(0, .ref (ad 6)), (1, .int x1), (2, .int x2), (3, .int x3), (4, .int x4), (5, .int x5), (6, .int x6)] 3 [] := by
  intro n
  induction n with
  | zero =>
    intro x6 σ ta hφ hφ2 h
    exact absurd (show (none : Option (Int32 × CS)) = some res from h) (by intro h9; cases h9)
  | succ n ih =>
    intro x6 σ ta hφ hφ2 h
    rw [L_Claims_allows_3] at h
    refine nw_iload C dX0_allows_3 6 rfl ?_
    refine nw_aload_n C dX0_allows_5 rfl 0 rfl ?_
    refine nw_get (v := .ref (ad 18)) C in_X0 6 cl_Claims rfl 0 (by decide) tw_326 rfl rfl dX0_allows_6 ?_
    refine nc_callVI (q0 := 18) (As := []) (rest := [.int x6]) C h (fun _ _ e => c_Table_size 7 (by decide) e hφ2) tw_1342 kv_X9_size (cl_T 7 (by decide)) rfl ⟨Nat.le_of_ble_eq_true rfl, Nat.le_of_ble_eq_true rfl⟩ rfl dX0_allows_9 rfl (Nat.le_of_ble_eq_true rfl) hφ hφ2 (fun r9 σ9 ta h hφ hφ2 => ?_)
    refine nw_icmp_ge (tgt := 102) C dX0_allows_12 (by decide) h (fun _ h => ?_) (fun _ h => ?_)
    · refine nw_iconst (v := 0) C dX0_allows_102 (by decide) ?_
      exact nc_zret C hr (Or.inl rfl) dX0_allows_103 hφ hφ2 h
    · refine nw_iload_n C dX0_allows_15 rfl 3 rfl ?_
      refine nw_iload C dX0_allows_16 4 rfl ?_
      refine nw_aload_n C dX0_allows_18 rfl 0 rfl ?_
      refine nw_get (v := .ref (ad 18)) C in_X0 6 cl_Claims rfl 0 (by decide) tw_326 rfl rfl dX0_allows_19 ?_
      refine nw_iload C dX0_allows_22 6 rfl ?_
      refine nw_iconst (v := 2) C dX0_allows_24 (by decide) ?_
      refine nc_callVI (q0 := 18) (As := [.int x6, .int 2]) (rest := [.int x4, .int x3]) C h (fun _ _ e => c_Table_get 7 (by decide) e hφ2) tw_1343 kv_X9_get (cl_T 7 (by decide)) rfl ⟨Nat.le_of_ble_eq_true rfl, Nat.le_of_ble_eq_true rfl⟩ rfl dX0_allows_25 rfl (Nat.le_of_ble_eq_true rfl) hφ hφ2 (fun r25 σ25 ta h hφ hφ2 => ?_)
      refine nw_aload_n C dX0_allows_28 rfl 0 rfl ?_
      refine nw_get (v := .ref (ad 18)) C in_X0 6 cl_Claims rfl 0 (by decide) tw_326 rfl rfl dX0_allows_29 ?_
      refine nw_iload C dX0_allows_32 6 rfl ?_
      refine nw_iconst (v := 3) C dX0_allows_34 (by decide) ?_
      refine nc_callVI (q0 := 18) (As := [.int x6, .int 3]) (rest := [.int r25, .int x4, .int x3]) C h (fun _ _ e => c_Table_get 7 (by decide) e hφ2) tw_1343 kv_X9_get (cl_T 7 (by decide)) rfl ⟨Nat.le_of_ble_eq_true rfl, Nat.le_of_ble_eq_true rfl⟩ rfl dX0_allows_35 rfl (Nat.le_of_ble_eq_true rfl) hφ hφ2 (fun r35 σ35 ta h hφ hφ2 => ?_)
      refine nc_callSNI  (As := [.int x3, .int x4, .int r25, .int r35]) (rest := []) C h (fun _ _ e => c_FC_wayBetween e hφ2) tw_1344 ks_X11_wayBetween ⟨Nat.le_of_ble_eq_true rfl, Nat.le_of_ble_eq_true rfl⟩ rfl dX0_allows_38 rfl (Nat.le_of_ble_eq_true rfl) hφ hφ2 (fun r38 σ38 ta h hφ hφ2 => ?_)
      refine nw_bipush (v := 20) C dX0_allows_41 (by decide) ?_
      refine nw_icmp_gt (tgt := 50) C dX0_allows_43 (by decide) h (fun _ h => ?_) (fun _ h => ?_)
      · refine nw_iconst (v := 0) C dX0_allows_50 (by decide) ?_
        exact nw_lv (lv' := [(0, .ref (ad 6)), (1, .int x1), (2, .int x2), (3, .int x3), (4, .int x4), (5, .int x5), (6, .int x6)]) [0, 1, 2, 3, 4, 5, 6] rfl (w_Claims_allows_51 C hr x1 x2 x3 x4 x5 x6 0 ih _ _ hφ hφ2 h)
      · refine nw_iconst (v := 1) C dX0_allows_46 (by decide) ?_
        refine nw_goto (tgt := 51) C dX0_allows_47 (by decide) ?_
        exact nw_lv (lv' := [(0, .ref (ad 6)), (1, .int x1), (2, .int x2), (3, .int x3), (4, .int x4), (5, .int x5), (6, .int x6)]) [0, 1, 2, 3, 4, 5, 6] rfl (w_Claims_allows_51 C hr x1 x2 x3 x4 x5 x6 1 ih _ _ hφ hφ2 h)
def f_Claims_allows (p0 : Int32) (p1 : Int32) (p2 : Int32) (p3 : Int32) (p4 : Int32) (σ : CS) : Option (Int32 × CS) := L_Claims_allows_3 p0 p1 p2 p3 p4 FU 0 σ
set_option maxHeartbeats 4000000 in
set_option maxRecDepth 100000 in
theorem c_Claims_allows {l : Launch} {g : EG} {ad ta : Nat → Nat} {Rr : va_W} {σ σ' : CS} {r : Int32} {p0 : Int32} {p1 : Int32} {p2 : Int32} {p3 : Int32} {p4 : Int32}  (h : f_Claims_allows p0 p1 p2 p3 p4 σ = some (r, σ')) (hφ2 : ph σ.2.2 ≤ BB) : CtI l g yX0_allows (.code yX0_allows cX0_allows 8 (some .boolean)) 4 99 ad ta Rr σ [.ref (ad 6), .int p0, .int p1, .int p2, .int p3, .int p4] r σ' := by
  refine Ct.of rfl (by decide) (Nat.le_of_ble_eq_true rfl) ?_
  intro p e s m args below meth c A C hr
  have hφ : ph σ.2.2 ≤ ph σ.2.2 := Nat.le_refl _
  refine nw_zero (ph σ.2.2) ?_
  show NI g p l e s m args below meth c A 4 99 8 ad Rr (ph σ.2.2) (r, σ') ta σ [(0, .ref (ad 6)), (1, .int p0), (2, .int p1), (3, .int p2), (4, .int p3), (5, .int p4)] 0 []
  unfold f_Claims_allows at h
  refine nw_iconst (v := 0) C dX0_allows_0 (by decide) ?_
  refine nw_istore (lv' := [(6, .int 0), (0, .ref (ad 6)), (1, .int p0), (2, .int p1), (3, .int p2), (4, .int p3), (5, .int p4)]) C dX0_allows_1 (by decide) rfl ?_
  exact nw_lv (lv' := [(0, .ref (ad 6)), (1, .int p0), (2, .int p1), (3, .int p2), (4, .int p3), (5, .int p4), (6, .int 0)]) [1, 2, 3, 4, 5, 6, 0] rfl (w_Claims_allows_3 C hr p0 p1 p2 p3 p4 FU 0 _ _ hφ hφ2 h)
theorem dX1_addWarden_0 : decode cX1_addWarden 0 = .ok (.aload_n 0, 1) := by decide +kernel
theorem dX1_addWarden_1 : decode cX1_addWarden 1 = .ok (.getfield 32, 3) := by decide +kernel
theorem dX1_addWarden_4 : decode cX1_addWarden 4 = .ok (.invokevirtual 45, 3) := by decide +kernel
theorem dX1_addWarden_7 : decode cX1_addWarden 7 = .ok (.istore 4, 2) := by decide +kernel
theorem dX1_addWarden_9 : decode cX1_addWarden 9 = .ok (.aload_n 0, 1) := by decide +kernel
theorem dX1_addWarden_10 : decode cX1_addWarden 10 = .ok (.getfield 32, 3) := by decide +kernel
theorem dX1_addWarden_13 : decode cX1_addWarden 13 = .ok (.iload 4, 2) := by decide +kernel
theorem dX1_addWarden_15 : decode cX1_addWarden 15 = .ok (.iconst 0, 1) := by decide +kernel
theorem dX1_addWarden_16 : decode cX1_addWarden 16 = .ok (.iload_n 1, 1) := by decide +kernel
theorem dX1_addWarden_17 : decode cX1_addWarden 17 = .ok (.invokevirtual 53, 3) := by decide +kernel
theorem dX1_addWarden_20 : decode cX1_addWarden 20 = .ok (.aload_n 0, 1) := by decide +kernel
theorem dX1_addWarden_21 : decode cX1_addWarden 21 = .ok (.getfield 32, 3) := by decide +kernel
theorem dX1_addWarden_24 : decode cX1_addWarden 24 = .ok (.iload 4, 2) := by decide +kernel
theorem dX1_addWarden_26 : decode cX1_addWarden 26 = .ok (.iconst 1, 1) := by decide +kernel
theorem dX1_addWarden_27 : decode cX1_addWarden 27 = .ok (.iload_n 2, 1) := by decide +kernel
theorem dX1_addWarden_28 : decode cX1_addWarden 28 = .ok (.invokevirtual 53, 3) := by decide +kernel
theorem dX1_addWarden_31 : decode cX1_addWarden 31 = .ok (.aload_n 0, 1) := by decide +kernel
theorem dX1_addWarden_32 : decode cX1_addWarden 32 = .ok (.getfield 32, 3) := by decide +kernel
theorem dX1_addWarden_35 : decode cX1_addWarden 35 = .ok (.iload 4, 2) := by decide +kernel
theorem dX1_addWarden_37 : decode cX1_addWarden 37 = .ok (.iconst 2, 1) := by decide +kernel
theorem dX1_addWarden_38 : decode cX1_addWarden 38 = .ok (.iload_n 3, 1) := by decide +kernel
theorem dX1_addWarden_39 : decode cX1_addWarden 39 = .ok (.invokevirtual 53, 3) := by decide +kernel
theorem dX1_addWarden_42 : decode cX1_addWarden 42 = .ok (.iload 4, 2) := by decide +kernel
theorem dX1_addWarden_44 : decode cX1_addWarden 44 = .ok (.ireturn, 1) := by decide +kernel
def f_Courts_addWarden (p0 : Int32) (p1 : Int32) (p2 : Int32) (σ : CS) : Option (Int32 × CS) := bnd (f_Table_add 9 σ) (fun r4 σ4 => bnd (f_Table_put 9 r4 0 p0 σ4) (fun _ σ17 => bnd (f_Table_put 9 r4 1 p1 σ17) (fun _ σ28 => bnd (f_Table_put 9 r4 2 p2 σ28) (fun _ σ39 => some (r4, σ39)))))
set_option maxHeartbeats 4000000 in
set_option maxRecDepth 100000 in
theorem c_Courts_addWarden {l : Launch} {g : EG} {ad ta : Nat → Nat} {Rr : va_W} {σ σ' : CS} {r : Int32} {p0 : Int32} {p1 : Int32} {p2 : Int32}  (h : f_Courts_addWarden p0 p1 p2 σ = some (r, σ')) (hφ2 : ph σ.2.2 ≤ BB) : CtI l g yX1_addWarden (.code yX1_addWarden cX1_addWarden 5 (some .int)) 5 222 ad ta Rr σ [.ref (ad 7), .int p0, .int p1, .int p2] r σ' := by
  refine Ct.of rfl (by decide) (Nat.le_of_ble_eq_true rfl) ?_
  intro p e s m args below meth c A C hr
  have hφ : ph σ.2.2 ≤ ph σ.2.2 := Nat.le_refl _
  refine nw_zero (ph σ.2.2) ?_
  show NI g p l e s m args below meth c A 5 222 5 ad Rr (ph σ.2.2) (r, σ') ta σ [(0, .ref (ad 7)), (1, .int p0), (2, .int p1), (3, .int p2)] 0 []
  unfold f_Courts_addWarden at h
  refine nw_aload_n C dX1_addWarden_0 rfl 0 rfl ?_
  refine nw_get (v := .ref (ad 20)) C in_X1 7 cl_Courts rfl 0 (by decide) tw_376 rfl rfl dX1_addWarden_1 ?_
  refine nc_callVI (q0 := 20) (As := []) (rest := []) C h (fun _ _ e => c_Table_add 9 (by decide) e hφ2) tw_348 kv_X9_add (cl_T 9 (by decide)) rfl ⟨Nat.le_of_ble_eq_true rfl, Nat.le_of_ble_eq_true rfl⟩ rfl dX1_addWarden_4 rfl (Nat.le_of_ble_eq_true rfl) hφ hφ2 (fun r4 σ4 ta h hφ hφ2 => ?_)
  refine nw_istore (lv' := [(4, .int r4), (0, .ref (ad 7)), (1, .int p0), (2, .int p1), (3, .int p2)]) C dX1_addWarden_7 (by decide) rfl ?_
  refine nw_aload_n C dX1_addWarden_9 rfl 1 rfl ?_
  refine nw_get (v := .ref (ad 20)) C in_X1 7 cl_Courts rfl 0 (by decide) tw_376 rfl rfl dX1_addWarden_10 ?_
  refine nw_iload C dX1_addWarden_13 0 rfl ?_
  refine nw_iconst (v := 0) C dX1_addWarden_15 (by decide) ?_
  refine nw_iload_n C dX1_addWarden_16 rfl 2 rfl ?_
  refine nc_callVV (q0 := 20) (As := [.int r4, .int 0, .int p0]) (rest := []) C h (fun _ _ e => c_Table_put 9 (by decide) e hφ2) tw_823 kv_X9_put (cl_T 9 (by decide)) rfl ⟨Nat.le_of_ble_eq_true rfl, Nat.le_of_ble_eq_true rfl⟩ rfl dX1_addWarden_17 rfl (Nat.le_of_ble_eq_true rfl) hφ hφ2 (fun r17 σ17 ta h hφ hφ2 => ?_)
  refine nw_aload_n C dX1_addWarden_20 rfl 1 rfl ?_
  refine nw_get (v := .ref (ad 20)) C in_X1 7 cl_Courts rfl 0 (by decide) tw_376 rfl rfl dX1_addWarden_21 ?_
  refine nw_iload C dX1_addWarden_24 0 rfl ?_
  refine nw_iconst (v := 1) C dX1_addWarden_26 (by decide) ?_
  refine nw_iload_n C dX1_addWarden_27 rfl 3 rfl ?_
  refine nc_callVV (q0 := 20) (As := [.int r4, .int 1, .int p1]) (rest := []) C h (fun _ _ e => c_Table_put 9 (by decide) e hφ2) tw_823 kv_X9_put (cl_T 9 (by decide)) rfl ⟨Nat.le_of_ble_eq_true rfl, Nat.le_of_ble_eq_true rfl⟩ rfl dX1_addWarden_28 rfl (Nat.le_of_ble_eq_true rfl) hφ hφ2 (fun r28 σ28 ta h hφ hφ2 => ?_)
  refine nw_aload_n C dX1_addWarden_31 rfl 1 rfl ?_
  refine nw_get (v := .ref (ad 20)) C in_X1 7 cl_Courts rfl 0 (by decide) tw_376 rfl rfl dX1_addWarden_32 ?_
  refine nw_iload C dX1_addWarden_35 0 rfl ?_
  refine nw_iconst (v := 2) C dX1_addWarden_37 (by decide) ?_
  refine nw_iload_n C dX1_addWarden_38 rfl 4 rfl ?_
  refine nc_callVV (q0 := 20) (As := [.int r4, .int 2, .int p2]) (rest := []) C h (fun _ _ e => c_Table_put 9 (by decide) e hφ2) tw_823 kv_X9_put (cl_T 9 (by decide)) rfl ⟨Nat.le_of_ble_eq_true rfl, Nat.le_of_ble_eq_true rfl⟩ rfl dX1_addWarden_39 rfl (Nat.le_of_ble_eq_true rfl) hφ hφ2 (fun r39 σ39 ta h hφ hφ2 => ?_)
  refine nw_iload C dX1_addWarden_42 0 rfl ?_
  exact nc_iret C hr dX1_addWarden_44 hφ hφ2 h
theorem dX1_addDeed_0 : decode cX1_addDeed 0 = .ok (.aload_n 0, 1) := by decide +kernel
theorem dX1_addDeed_1 : decode cX1_addDeed 1 = .ok (.getfield 36, 3) := by decide +kernel
theorem dX1_addDeed_4 : decode cX1_addDeed 4 = .ok (.invokevirtual 45, 3) := by decide +kernel
theorem dX1_addDeed_7 : decode cX1_addDeed 7 = .ok (.istore 7, 2) := by decide +kernel
theorem dX1_addDeed_9 : decode cX1_addDeed 9 = .ok (.aload_n 0, 1) := by decide +kernel
theorem dX1_addDeed_10 : decode cX1_addDeed 10 = .ok (.getfield 36, 3) := by decide +kernel
theorem dX1_addDeed_13 : decode cX1_addDeed 13 = .ok (.iload 7, 2) := by decide +kernel
theorem dX1_addDeed_15 : decode cX1_addDeed 15 = .ok (.iconst 0, 1) := by decide +kernel
theorem dX1_addDeed_16 : decode cX1_addDeed 16 = .ok (.iload_n 1, 1) := by decide +kernel
theorem dX1_addDeed_17 : decode cX1_addDeed 17 = .ok (.invokevirtual 53, 3) := by decide +kernel
theorem dX1_addDeed_20 : decode cX1_addDeed 20 = .ok (.aload_n 0, 1) := by decide +kernel
theorem dX1_addDeed_21 : decode cX1_addDeed 21 = .ok (.getfield 36, 3) := by decide +kernel
theorem dX1_addDeed_24 : decode cX1_addDeed 24 = .ok (.iload 7, 2) := by decide +kernel
theorem dX1_addDeed_26 : decode cX1_addDeed 26 = .ok (.iconst 1, 1) := by decide +kernel
theorem dX1_addDeed_27 : decode cX1_addDeed 27 = .ok (.iload_n 2, 1) := by decide +kernel
theorem dX1_addDeed_28 : decode cX1_addDeed 28 = .ok (.invokevirtual 53, 3) := by decide +kernel
theorem dX1_addDeed_31 : decode cX1_addDeed 31 = .ok (.aload_n 0, 1) := by decide +kernel
theorem dX1_addDeed_32 : decode cX1_addDeed 32 = .ok (.getfield 36, 3) := by decide +kernel
theorem dX1_addDeed_35 : decode cX1_addDeed 35 = .ok (.iload 7, 2) := by decide +kernel
theorem dX1_addDeed_37 : decode cX1_addDeed 37 = .ok (.iconst 2, 1) := by decide +kernel
theorem dX1_addDeed_38 : decode cX1_addDeed 38 = .ok (.iload_n 3, 1) := by decide +kernel
theorem dX1_addDeed_39 : decode cX1_addDeed 39 = .ok (.invokevirtual 53, 3) := by decide +kernel
theorem dX1_addDeed_42 : decode cX1_addDeed 42 = .ok (.aload_n 0, 1) := by decide +kernel
theorem dX1_addDeed_43 : decode cX1_addDeed 43 = .ok (.getfield 36, 3) := by decide +kernel
theorem dX1_addDeed_46 : decode cX1_addDeed 46 = .ok (.iload 7, 2) := by decide +kernel
theorem dX1_addDeed_48 : decode cX1_addDeed 48 = .ok (.iconst 3, 1) := by decide +kernel
theorem dX1_addDeed_49 : decode cX1_addDeed 49 = .ok (.iload 4, 2) := by decide +kernel
theorem dX1_addDeed_51 : decode cX1_addDeed 51 = .ok (.invokevirtual 53, 3) := by decide +kernel
theorem dX1_addDeed_54 : decode cX1_addDeed 54 = .ok (.aload_n 0, 1) := by decide +kernel
theorem dX1_addDeed_55 : decode cX1_addDeed 55 = .ok (.getfield 36, 3) := by decide +kernel
theorem dX1_addDeed_58 : decode cX1_addDeed 58 = .ok (.iload 7, 2) := by decide +kernel
theorem dX1_addDeed_60 : decode cX1_addDeed 60 = .ok (.iconst 4, 1) := by decide +kernel
theorem dX1_addDeed_61 : decode cX1_addDeed 61 = .ok (.iload 5, 2) := by decide +kernel
theorem dX1_addDeed_63 : decode cX1_addDeed 63 = .ok (.invokevirtual 53, 3) := by decide +kernel
theorem dX1_addDeed_66 : decode cX1_addDeed 66 = .ok (.aload_n 0, 1) := by decide +kernel
theorem dX1_addDeed_67 : decode cX1_addDeed 67 = .ok (.getfield 36, 3) := by decide +kernel
theorem dX1_addDeed_70 : decode cX1_addDeed 70 = .ok (.iload 7, 2) := by decide +kernel
theorem dX1_addDeed_72 : decode cX1_addDeed 72 = .ok (.iconst 5, 1) := by decide +kernel
theorem dX1_addDeed_73 : decode cX1_addDeed 73 = .ok (.iload 6, 2) := by decide +kernel
theorem dX1_addDeed_75 : decode cX1_addDeed 75 = .ok (.invokevirtual 53, 3) := by decide +kernel
theorem dX1_addDeed_78 : decode cX1_addDeed 78 = .ok (.iload 7, 2) := by decide +kernel
theorem dX1_addDeed_80 : decode cX1_addDeed 80 = .ok (.ireturn, 1) := by decide +kernel
def f_Courts_addDeed (p0 : Int32) (p1 : Int32) (p2 : Int32) (p3 : Int32) (p4 : Int32) (p5 : Int32) (σ : CS) : Option (Int32 × CS) := bnd (f_Table_add 10 σ) (fun r4 σ4 => bnd (f_Table_put 10 r4 0 p0 σ4) (fun _ σ17 => bnd (f_Table_put 10 r4 1 p1 σ17) (fun _ σ28 => bnd (f_Table_put 10 r4 2 p2 σ28) (fun _ σ39 => bnd (f_Table_put 10 r4 3 p3 σ39) (fun _ σ51 => bnd (f_Table_put 10 r4 4 p4 σ51) (fun _ σ63 => bnd (f_Table_put 10 r4 5 p5 σ63) (fun _ σ75 => some (r4, σ75))))))))
set_option maxHeartbeats 4000000 in
set_option maxRecDepth 100000 in
theorem c_Courts_addDeed {l : Launch} {g : EG} {ad ta : Nat → Nat} {Rr : va_W} {σ σ' : CS} {r : Int32} {p0 : Int32} {p1 : Int32} {p2 : Int32} {p3 : Int32} {p4 : Int32} {p5 : Int32}  (h : f_Courts_addDeed p0 p1 p2 p3 p4 p5 σ = some (r, σ')) (hφ2 : ph σ.2.2 ≤ BB) : CtI l g yX1_addDeed (.code yX1_addDeed cX1_addDeed 8 (some .int)) 5 222 ad ta Rr σ [.ref (ad 7), .int p0, .int p1, .int p2, .int p3, .int p4, .int p5] r σ' := by
  refine Ct.of rfl (by decide) (Nat.le_of_ble_eq_true rfl) ?_
  intro p e s m args below meth c A C hr
  have hφ : ph σ.2.2 ≤ ph σ.2.2 := Nat.le_refl _
  refine nw_zero (ph σ.2.2) ?_
  show NI g p l e s m args below meth c A 5 222 8 ad Rr (ph σ.2.2) (r, σ') ta σ [(0, .ref (ad 7)), (1, .int p0), (2, .int p1), (3, .int p2), (4, .int p3), (5, .int p4), (6, .int p5)] 0 []
  unfold f_Courts_addDeed at h
  refine nw_aload_n C dX1_addDeed_0 rfl 0 rfl ?_
  refine nw_get (v := .ref (ad 21)) C in_X1 7 cl_Courts rfl 1 (by decide) tw_378 rfl rfl dX1_addDeed_1 ?_
  refine nc_callVI (q0 := 21) (As := []) (rest := []) C h (fun _ _ e => c_Table_add 10 (by decide) e hφ2) tw_348 kv_X9_add (cl_T 10 (by decide)) rfl ⟨Nat.le_of_ble_eq_true rfl, Nat.le_of_ble_eq_true rfl⟩ rfl dX1_addDeed_4 rfl (Nat.le_of_ble_eq_true rfl) hφ hφ2 (fun r4 σ4 ta h hφ hφ2 => ?_)
  refine nw_istore (lv' := [(7, .int r4), (0, .ref (ad 7)), (1, .int p0), (2, .int p1), (3, .int p2), (4, .int p3), (5, .int p4), (6, .int p5)]) C dX1_addDeed_7 (by decide) rfl ?_
  refine nw_aload_n C dX1_addDeed_9 rfl 1 rfl ?_
  refine nw_get (v := .ref (ad 21)) C in_X1 7 cl_Courts rfl 1 (by decide) tw_378 rfl rfl dX1_addDeed_10 ?_
  refine nw_iload C dX1_addDeed_13 0 rfl ?_
  refine nw_iconst (v := 0) C dX1_addDeed_15 (by decide) ?_
  refine nw_iload_n C dX1_addDeed_16 rfl 2 rfl ?_
  refine nc_callVV (q0 := 21) (As := [.int r4, .int 0, .int p0]) (rest := []) C h (fun _ _ e => c_Table_put 10 (by decide) e hφ2) tw_823 kv_X9_put (cl_T 10 (by decide)) rfl ⟨Nat.le_of_ble_eq_true rfl, Nat.le_of_ble_eq_true rfl⟩ rfl dX1_addDeed_17 rfl (Nat.le_of_ble_eq_true rfl) hφ hφ2 (fun r17 σ17 ta h hφ hφ2 => ?_)
  refine nw_aload_n C dX1_addDeed_20 rfl 1 rfl ?_
  refine nw_get (v := .ref (ad 21)) C in_X1 7 cl_Courts rfl 1 (by decide) tw_378 rfl rfl dX1_addDeed_21 ?_
  refine nw_iload C dX1_addDeed_24 0 rfl ?_
  refine nw_iconst (v := 1) C dX1_addDeed_26 (by decide) ?_
  refine nw_iload_n C dX1_addDeed_27 rfl 3 rfl ?_
  refine nc_callVV (q0 := 21) (As := [.int r4, .int 1, .int p1]) (rest := []) C h (fun _ _ e => c_Table_put 10 (by decide) e hφ2) tw_823 kv_X9_put (cl_T 10 (by decide)) rfl ⟨Nat.le_of_ble_eq_true rfl, Nat.le_of_ble_eq_true rfl⟩ rfl dX1_addDeed_28 rfl (Nat.le_of_ble_eq_true rfl) hφ hφ2 (fun r28 σ28 ta h hφ hφ2 => ?_)
  refine nw_aload_n C dX1_addDeed_31 rfl 1 rfl ?_
  refine nw_get (v := .ref (ad 21)) C in_X1 7 cl_Courts rfl 1 (by decide) tw_378 rfl rfl dX1_addDeed_32 ?_
  refine nw_iload C dX1_addDeed_35 0 rfl ?_
  refine nw_iconst (v := 2) C dX1_addDeed_37 (by decide) ?_
  refine nw_iload_n C dX1_addDeed_38 rfl 4 rfl ?_
  refine nc_callVV (q0 := 21) (As := [.int r4, .int 2, .int p2]) (rest := []) C h (fun _ _ e => c_Table_put 10 (by decide) e hφ2) tw_823 kv_X9_put (cl_T 10 (by decide)) rfl ⟨Nat.le_of_ble_eq_true rfl, Nat.le_of_ble_eq_true rfl⟩ rfl dX1_addDeed_39 rfl (Nat.le_of_ble_eq_true rfl) hφ hφ2 (fun r39 σ39 ta h hφ hφ2 => ?_)
  refine nw_aload_n C dX1_addDeed_42 rfl 1 rfl ?_
  refine nw_get (v := .ref (ad 21)) C in_X1 7 cl_Courts rfl 1 (by decide) tw_378 rfl rfl dX1_addDeed_43 ?_
  refine nw_iload C dX1_addDeed_46 0 rfl ?_
  refine nw_iconst (v := 3) C dX1_addDeed_48 (by decide) ?_
  refine nw_iload C dX1_addDeed_49 5 rfl ?_
  refine nc_callVV (q0 := 21) (As := [.int r4, .int 3, .int p3]) (rest := []) C h (fun _ _ e => c_Table_put 10 (by decide) e hφ2) tw_823 kv_X9_put (cl_T 10 (by decide)) rfl ⟨Nat.le_of_ble_eq_true rfl, Nat.le_of_ble_eq_true rfl⟩ rfl dX1_addDeed_51 rfl (Nat.le_of_ble_eq_true rfl) hφ hφ2 (fun r51 σ51 ta h hφ hφ2 => ?_)
  refine nw_aload_n C dX1_addDeed_54 rfl 1 rfl ?_
  refine nw_get (v := .ref (ad 21)) C in_X1 7 cl_Courts rfl 1 (by decide) tw_378 rfl rfl dX1_addDeed_55 ?_
  refine nw_iload C dX1_addDeed_58 0 rfl ?_
  refine nw_iconst (v := 4) C dX1_addDeed_60 (by decide) ?_
  refine nw_iload C dX1_addDeed_61 6 rfl ?_
  refine nc_callVV (q0 := 21) (As := [.int r4, .int 4, .int p4]) (rest := []) C h (fun _ _ e => c_Table_put 10 (by decide) e hφ2) tw_823 kv_X9_put (cl_T 10 (by decide)) rfl ⟨Nat.le_of_ble_eq_true rfl, Nat.le_of_ble_eq_true rfl⟩ rfl dX1_addDeed_63 rfl (Nat.le_of_ble_eq_true rfl) hφ hφ2 (fun r63 σ63 ta h hφ hφ2 => ?_)
  refine nw_aload_n C dX1_addDeed_66 rfl 1 rfl ?_
  refine nw_get (v := .ref (ad 21)) C in_X1 7 cl_Courts rfl 1 (by decide) tw_378 rfl rfl dX1_addDeed_67 ?_
  refine nw_iload C dX1_addDeed_70 0 rfl ?_
  refine nw_iconst (v := 5) C dX1_addDeed_72 (by decide) ?_
  refine nw_iload C dX1_addDeed_73 7 rfl ?_
  refine nc_callVV (q0 := 21) (As := [.int r4, .int 5, .int p5]) (rest := []) C h (fun _ _ e => c_Table_put 10 (by decide) e hφ2) tw_823 kv_X9_put (cl_T 10 (by decide)) rfl ⟨Nat.le_of_ble_eq_true rfl, Nat.le_of_ble_eq_true rfl⟩ rfl dX1_addDeed_75 rfl (Nat.le_of_ble_eq_true rfl) hφ hφ2 (fun r75 σ75 ta h hφ hφ2 => ?_)
  refine nw_iload C dX1_addDeed_78 0 rfl ?_
  exact nc_iret C hr dX1_addDeed_80 hφ hφ2 h
theorem dX2_boundsOn_0 : decode cX2_boundsOn 0 = .ok (.iconst (-1), 1) := by decide +kernel
theorem dX2_boundsOn_1 : decode cX2_boundsOn 1 = .ok (.istore_n 2, 1) := by decide +kernel
theorem dX2_boundsOn_2 : decode cX2_boundsOn 2 = .ok (.iconst 0, 1) := by decide +kernel
theorem dX2_boundsOn_3 : decode cX2_boundsOn 3 = .ok (.istore_n 3, 1) := by decide +kernel
theorem dX2_boundsOn_4 : decode cX2_boundsOn 4 = .ok (.iload_n 3, 1) := by decide +kernel
theorem dX2_boundsOn_5 : decode cX2_boundsOn 5 = .ok (.aload_n 0, 1) := by decide +kernel
theorem dX2_boundsOn_6 : decode cX2_boundsOn 6 = .ok (.getfield 20, 3) := by decide +kernel
theorem dX2_boundsOn_9 : decode cX2_boundsOn 9 = .ok (.invokevirtual 27, 3) := by decide +kernel
theorem dX2_boundsOn_12 : decode cX2_boundsOn 12 = .ok (.if_icmp .ge 82, 3) := by decide +kernel
theorem dX2_boundsOn_15 : decode cX2_boundsOn 15 = .ok (.aload_n 0, 1) := by decide +kernel
theorem dX2_boundsOn_16 : decode cX2_boundsOn 16 = .ok (.getfield 20, 3) := by decide +kernel
theorem dX2_boundsOn_19 : decode cX2_boundsOn 19 = .ok (.iload_n 3, 1) := by decide +kernel
theorem dX2_boundsOn_20 : decode cX2_boundsOn 20 = .ok (.iconst 0, 1) := by decide +kernel
theorem dX2_boundsOn_21 : decode cX2_boundsOn 21 = .ok (.invokevirtual 31, 3) := by decide +kernel
theorem dX2_boundsOn_24 : decode cX2_boundsOn 24 = .ok (.istore 4, 2) := by decide +kernel
theorem dX2_boundsOn_26 : decode cX2_boundsOn 26 = .ok (.aload_n 0, 1) := by decide +kernel
theorem dX2_boundsOn_27 : decode cX2_boundsOn 27 = .ok (.getfield 20, 3) := by decide +kernel
theorem dX2_boundsOn_30 : decode cX2_boundsOn 30 = .ok (.iload_n 3, 1) := by decide +kernel
theorem dX2_boundsOn_31 : decode cX2_boundsOn 31 = .ok (.iconst 1, 1) := by decide +kernel
theorem dX2_boundsOn_32 : decode cX2_boundsOn 32 = .ok (.invokevirtual 31, 3) := by decide +kernel
theorem dX2_boundsOn_35 : decode cX2_boundsOn 35 = .ok (.istore 5, 2) := by decide +kernel
theorem dX2_boundsOn_37 : decode cX2_boundsOn 37 = .ok (.iload 4, 2) := by decide +kernel
theorem dX2_boundsOn_39 : decode cX2_boundsOn 39 = .ok (.iload_n 1, 1) := by decide +kernel
theorem dX2_boundsOn_40 : decode cX2_boundsOn 40 = .ok (.if_icmp .gt 19, 3) := by decide +kernel
theorem dX2_boundsOn_43 : decode cX2_boundsOn 43 = .ok (.iload 5, 2) := by decide +kernel
theorem dX2_boundsOn_45 : decode cX2_boundsOn 45 = .ok (.iconst (-1), 1) := by decide +kernel
theorem dX2_boundsOn_46 : decode cX2_boundsOn 46 = .ok (.if_icmp .eq 9, 3) := by decide +kernel
theorem dX2_boundsOn_49 : decode cX2_boundsOn 49 = .ok (.iload_n 1, 1) := by decide +kernel
theorem dX2_boundsOn_50 : decode cX2_boundsOn 50 = .ok (.iload 5, 2) := by decide +kernel
theorem dX2_boundsOn_52 : decode cX2_boundsOn 52 = .ok (.if_icmp .ge 7, 3) := by decide +kernel
theorem dX2_boundsOn_55 : decode cX2_boundsOn 55 = .ok (.iconst 1, 1) := by decide +kernel
theorem dX2_boundsOn_56 : decode cX2_boundsOn 56 = .ok (.goto 4, 3) := by decide +kernel
theorem dX2_boundsOn_59 : decode cX2_boundsOn 59 = .ok (.iconst 0, 1) := by decide +kernel
theorem dX2_boundsOn_60 : decode cX2_boundsOn 60 = .ok (.istore 6, 2) := by decide +kernel
theorem dX2_boundsOn_62 : decode cX2_boundsOn 62 = .ok (.iload 6, 2) := by decide +kernel
theorem dX2_boundsOn_64 : decode cX2_boundsOn 64 = .ok (.ifCond .eq 24, 3) := by decide +kernel
theorem dX2_boundsOn_67 : decode cX2_boundsOn 67 = .ok (.iload_n 2, 1) := by decide +kernel
theorem dX2_boundsOn_68 : decode cX2_boundsOn 68 = .ok (.iconst (-1), 1) := by decide +kernel
theorem dX2_boundsOn_69 : decode cX2_boundsOn 69 = .ok (.if_icmp .eq 17, 3) := by decide +kernel
theorem dX2_boundsOn_72 : decode cX2_boundsOn 72 = .ok (.iload 4, 2) := by decide +kernel
theorem dX2_boundsOn_74 : decode cX2_boundsOn 74 = .ok (.aload_n 0, 1) := by decide +kernel
theorem dX2_boundsOn_75 : decode cX2_boundsOn 75 = .ok (.getfield 20, 3) := by decide +kernel
theorem dX2_boundsOn_78 : decode cX2_boundsOn 78 = .ok (.iload_n 2, 1) := by decide +kernel
theorem dX2_boundsOn_79 : decode cX2_boundsOn 79 = .ok (.iconst 0, 1) := by decide +kernel
theorem dX2_boundsOn_80 : decode cX2_boundsOn 80 = .ok (.invokevirtual 31, 3) := by decide +kernel
theorem dX2_boundsOn_83 : decode cX2_boundsOn 83 = .ok (.if_icmp .lt 5, 3) := by decide +kernel
theorem dX2_boundsOn_86 : decode cX2_boundsOn 86 = .ok (.iload_n 3, 1) := by decide +kernel
theorem dX2_boundsOn_87 : decode cX2_boundsOn 87 = .ok (.istore_n 2, 1) := by decide +kernel
theorem dX2_boundsOn_88 : decode cX2_boundsOn 88 = .ok (.iinc 3 1, 3) := by decide +kernel
theorem dX2_boundsOn_91 : decode cX2_boundsOn 91 = .ok (.goto (-87), 3) := by decide +kernel
theorem dX2_boundsOn_94 : decode cX2_boundsOn 94 = .ok (.iload_n 2, 1) := by decide +kernel
theorem dX2_boundsOn_95 : decode cX2_boundsOn 95 = .ok (.ireturn, 1) := by decide +kernel
def B_Ground_boundsOn_86 (k4 : Int32 → Int32 → CS → Option (Int32 × CS)) (x1 : Int32) (x3 : Int32) (σ : CS) : Option (Int32 × CS) := k4 x3 (x3 + 1) σ
set_option maxHeartbeats 4000000 in
set_option maxRecDepth 100000 in
theorem w_Ground_boundsOn_86 (C : Cx g p s m args meth c A 7 cX2_boundsOn yX2_boundsOn.cls) (hr : meth.sig.returnType = (some .int))  {res : Int32 × CS}  (x1 : Int32) (x3 : Int32) {k4 : Int32 → Int32 → CS → Option (Int32 × CS)} (hk4 : ∀ (x2 : Int32) (x3 : Int32) (σ : CS) (ta : Nat → Nat), φ0 ≤ ph σ.2.2 → ph σ.2.2 ≤ BB → k4 x2 x3 σ = some res → NI g p l e s m args below meth c A 1 23 7 ad Rr φ0 res ta σ [(0, .ref (ad 1)), (1, .int x1), (2, .int x2), (3, .int x3)] 4 []) (σ : CS) (ta : Nat → Nat) (hφ : φ0 ≤ ph σ.2.2) (hφ2 : ph σ.2.2 ≤ BB) (h : B_Ground_boundsOn_86 k4 x1 x3 σ = some res) : NI g p l e s m args below meth c A 1 23 7 ad Rr φ0 res ta σ [(0, .ref (ad 1)), (1, .int x1), (3, .int x3)] 86 [] := by
  unfold B_Ground_boundsOn_86 at h
  refine nw_iload_n C dX2_boundsOn_86 rfl 2 rfl ?_
  refine nw_istore_n (lv' := [(2, .int x3), (0, .ref (ad 1)), (1, .int x1), (3, .int x3)]) C dX2_boundsOn_87 rfl (by decide) rfl ?_
  refine nw_iinc (lv' := [(3, .int (x3 + 1)), (2, .int x3), (0, .ref (ad 1)), (1, .int x1)]) C (x3 + 1) dX2_boundsOn_88 3 rfl rfl (by decide) rfl ?_
  refine nw_goto (tgt := 4) C dX2_boundsOn_91 (by decide) ?_
  exact nw_lv (lv' := [(0, .ref (ad 1)), (1, .int x1), (2, .int x3), (3, .int (x3 + 1))]) [2, 3, 1, 0] rfl (hk4 x3 (x3 + 1) _ _ hφ hφ2 h)
def B_Ground_boundsOn_60 (k4 : Int32 → Int32 → CS → Option (Int32 × CS)) (x1 : Int32) (x2 : Int32) (x3 : Int32) (x4 : Int32) (z0 : Int32) (σ : CS) : Option (Int32 × CS) := if z0 = 0 then k4 x2 (x3 + 1) σ else if x2 = (-1) then B_Ground_boundsOn_86 k4 x1 x3 σ else bnd (f_Table_get 2 x2 0 σ) (fun r80 σ80 => if x4 < r80 then k4 x2 (x3 + 1) σ80 else B_Ground_boundsOn_86 k4 x1 x3 σ80)
set_option maxHeartbeats 4000000 in
set_option maxRecDepth 100000 in
theorem w_Ground_boundsOn_60 (C : Cx g p s m args meth c A 7 cX2_boundsOn yX2_boundsOn.cls) (hr : meth.sig.returnType = (some .int))  {res : Int32 × CS}  (x1 : Int32) (x2 : Int32) (x3 : Int32) (x4 : Int32) (z0 : Int32) {k4 : Int32 → Int32 → CS → Option (Int32 × CS)} (hk4 : ∀ (x2 : Int32) (x3 : Int32) (σ : CS) (ta : Nat → Nat), φ0 ≤ ph σ.2.2 → ph σ.2.2 ≤ BB → k4 x2 x3 σ = some res → NI g p l e s m args below meth c A 1 23 7 ad Rr φ0 res ta σ [(0, .ref (ad 1)), (1, .int x1), (2, .int x2), (3, .int x3)] 4 []) (σ : CS) (ta : Nat → Nat) (hφ : φ0 ≤ ph σ.2.2) (hφ2 : ph σ.2.2 ≤ BB) (h : B_Ground_boundsOn_60 k4 x1 x2 x3 x4 z0 σ = some res) : NI g p l e s m args below meth c A 1 23 7 ad Rr φ0 res ta σ [(0, .ref (ad 1)), (1, .int x1), (2, .int x2), (3, .int x3), (4, .int x4)] 60 [.int z0] := by
  unfold B_Ground_boundsOn_60 at h
  refine nw_istore (lv' := [(6, .int z0), (0, .ref (ad 1)), (1, .int x1), (2, .int x2), (3, .int x3), (4, .int x4)]) C dX2_boundsOn_60 (by decide) rfl ?_
  refine nw_iload C dX2_boundsOn_62 0 rfl ?_
  refine nw_if_eq (tgt := 88) C dX2_boundsOn_64 (by decide) h (fun _ h => ?_) (fun _ h => ?_)
  · refine nw_iinc (lv' := [(3, .int (x3 + 1)), (6, .int z0), (0, .ref (ad 1)), (1, .int x1), (2, .int x2), (4, .int x4)]) C (x3 + 1) dX2_boundsOn_88 4 rfl rfl (by decide) rfl ?_
    refine nw_goto (tgt := 4) C dX2_boundsOn_91 (by decide) ?_
    exact nw_lv (lv' := [(0, .ref (ad 1)), (1, .int x1), (2, .int x2), (3, .int (x3 + 1))]) [2, 3, 4, 0] rfl (hk4 x2 (x3 + 1) _ _ hφ hφ2 h)
  · refine nw_iload_n C dX2_boundsOn_67 rfl 3 rfl ?_
    refine nw_iconst (v := (-1)) C dX2_boundsOn_68 (by decide) ?_
    refine nw_icmp_eq (tgt := 86) C dX2_boundsOn_69 (by decide) h (fun _ h => ?_) (fun _ h => ?_)
    · exact nw_lv (lv' := [(0, .ref (ad 1)), (1, .int x1), (3, .int x3)]) [1, 2, 4] rfl (w_Ground_boundsOn_86 C hr x1 x3 hk4 _ _ hφ hφ2 h)
    · refine nw_iload C dX2_boundsOn_72 5 rfl ?_
      refine nw_aload_n C dX2_boundsOn_74 rfl 1 rfl ?_
      refine nw_get (v := .ref (ad 13)) C in_X2 1 cl_Ground rfl 1 (by decide) tw_192 rfl rfl dX2_boundsOn_75 ?_
      refine nw_iload_n C dX2_boundsOn_78 rfl 3 rfl ?_
      refine nw_iconst (v := 0) C dX2_boundsOn_79 (by decide) ?_
      refine nc_callVI (q0 := 13) (As := [.int x2, .int 0]) (rest := [.int x4]) C h (fun _ _ e => c_Table_get 2 (by decide) e hφ2) tw_841 kv_X9_get (cl_T 2 (by decide)) rfl ⟨Nat.le_of_ble_eq_true rfl, Nat.le_of_ble_eq_true rfl⟩ rfl dX2_boundsOn_80 rfl (Nat.le_of_ble_eq_true rfl) hφ hφ2 (fun r80 σ80 ta h hφ hφ2 => ?_)
      refine nw_icmp_lt (tgt := 88) C dX2_boundsOn_83 (by decide) h (fun _ h => ?_) (fun _ h => ?_)
      · refine nw_iinc (lv' := [(3, .int (x3 + 1)), (6, .int z0), (0, .ref (ad 1)), (1, .int x1), (2, .int x2), (4, .int x4)]) C (x3 + 1) dX2_boundsOn_88 4 rfl rfl (by decide) rfl ?_
        refine nw_goto (tgt := 4) C dX2_boundsOn_91 (by decide) ?_
        exact nw_lv (lv' := [(0, .ref (ad 1)), (1, .int x1), (2, .int x2), (3, .int (x3 + 1))]) [2, 3, 4, 0] rfl (hk4 x2 (x3 + 1) _ _ hφ hφ2 h)
      · exact nw_lv (lv' := [(0, .ref (ad 1)), (1, .int x1), (3, .int x3)]) [1, 2, 4] rfl (w_Ground_boundsOn_86 C hr x1 x3 hk4 _ _ hφ hφ2 h)
def B_Ground_boundsOn_59 (k4 : Int32 → Int32 → CS → Option (Int32 × CS)) (x1 : Int32) (x2 : Int32) (x3 : Int32) (x4 : Int32) (σ : CS) : Option (Int32 × CS) := B_Ground_boundsOn_60 k4 x1 x2 x3 x4 0 σ
set_option maxHeartbeats 4000000 in
set_option maxRecDepth 100000 in
theorem w_Ground_boundsOn_59 (C : Cx g p s m args meth c A 7 cX2_boundsOn yX2_boundsOn.cls) (hr : meth.sig.returnType = (some .int))  {res : Int32 × CS}  (x1 : Int32) (x2 : Int32) (x3 : Int32) (x4 : Int32) {k4 : Int32 → Int32 → CS → Option (Int32 × CS)} (hk4 : ∀ (x2 : Int32) (x3 : Int32) (σ : CS) (ta : Nat → Nat), φ0 ≤ ph σ.2.2 → ph σ.2.2 ≤ BB → k4 x2 x3 σ = some res → NI g p l e s m args below meth c A 1 23 7 ad Rr φ0 res ta σ [(0, .ref (ad 1)), (1, .int x1), (2, .int x2), (3, .int x3)] 4 []) (σ : CS) (ta : Nat → Nat) (hφ : φ0 ≤ ph σ.2.2) (hφ2 : ph σ.2.2 ≤ BB) (h : B_Ground_boundsOn_59 k4 x1 x2 x3 x4 σ = some res) : NI g p l e s m args below meth c A 1 23 7 ad Rr φ0 res ta σ [(0, .ref (ad 1)), (1, .int x1), (2, .int x2), (3, .int x3), (4, .int x4)] 59 [] := by
  unfold B_Ground_boundsOn_59 at h
  refine nw_iconst (v := 0) C dX2_boundsOn_59 (by decide) ?_
  exact nw_lv (lv' := [(0, .ref (ad 1)), (1, .int x1), (2, .int x2), (3, .int x3), (4, .int x4)]) [0, 1, 2, 3, 4] rfl (w_Ground_boundsOn_60 C hr x1 x2 x3 x4 0 hk4 _ _ hφ hφ2 h)
def L_Ground_boundsOn_4  (x1 : Int32) : Nat → Int32 → Int32 → CS → Option (Int32 × CS)
  | 0, _, _, _ => none
  | n + 1, x2, x3, σ => bnd (f_Table_size 2 σ) (fun r9 σ9 => if r9 ≤ x3 then some (x2, σ9) else bnd (f_Table_get 2 x3 0 σ9) (fun r21 σ21 => bnd (f_Table_get 2 x3 1 σ21) (fun r32 σ32 => if x1 < r21 then B_Ground_boundsOn_59 (L_Ground_boundsOn_4 x1 n) x1 x2 x3 r21 σ32 else if r32 = (-1) then B_Ground_boundsOn_60 (L_Ground_boundsOn_4 x1 n) x1 x2 x3 r21 1 σ32 else if r32 ≤ x1 then B_Ground_boundsOn_59 (L_Ground_boundsOn_4 x1 n) x1 x2 x3 r21 σ32 else B_Ground_boundsOn_60 (L_Ground_boundsOn_4 x1 n) x1 x2 x3 r21 1 σ32)))
set_option maxHeartbeats 4000000 in
set_option maxRecDepth 100000 in
theorem w_Ground_boundsOn_4 (C : Cx g p s m args meth c A 7 cX2_boundsOn yX2_boundsOn.cls) (hr : meth.sig.returnType = (some .int))  {res : Int32 × CS}  (x1 : Int32)  : ∀ (n : Nat) (x2 : Int32) (x3 : Int32) (σ : CS) (ta : Nat → Nat), φ0 ≤ ph σ.2.2 → ph σ.2.2 ≤ BB → L_Ground_boundsOn_4 x1 n x2 x3 σ = some res → NI g p l e s m args below meth c A 1 23 7 ad Rr φ0 res ta σ [(0, .ref (ad 1)), (1, .int x1), (2, .int x2), (3, .int x3)] 4 [] := by
  intro n
  induction n with
  | zero =>
    intro x2 x3 σ ta hφ hφ2 h
    exact absurd (show (none : Option (Int32 × CS)) = some res from h) (by intro h9; cases h9)
  | succ n ih =>
    intro x2 x3 σ ta hφ hφ2 h
    rw [L_Ground_boundsOn_4] at h
    refine nw_iload_n C dX2_boundsOn_4 rfl 3 rfl ?_
    refine nw_aload_n C dX2_boundsOn_5 rfl 0 rfl ?_
    refine nw_get (v := .ref (ad 13)) C in_X2 1 cl_Ground rfl 1 (by decide) tw_192 rfl rfl dX2_boundsOn_6 ?_
    refine nc_callVI (q0 := 13) (As := []) (rest := [.int x3]) C h (fun _ _ e => c_Table_size 2 (by decide) e hφ2) tw_840 kv_X9_size (cl_T 2 (by decide)) rfl ⟨Nat.le_of_ble_eq_true rfl, Nat.le_of_ble_eq_true rfl⟩ rfl dX2_boundsOn_9 rfl (Nat.le_of_ble_eq_true rfl) hφ hφ2 (fun r9 σ9 ta h hφ hφ2 => ?_)
    refine nw_icmp_ge (tgt := 94) C dX2_boundsOn_12 (by decide) h (fun _ h => ?_) (fun _ h => ?_)
    · refine nw_iload_n C dX2_boundsOn_94 rfl 2 rfl ?_
      exact nc_iret C hr dX2_boundsOn_95 hφ hφ2 h
    · refine nw_aload_n C dX2_boundsOn_15 rfl 0 rfl ?_
      refine nw_get (v := .ref (ad 13)) C in_X2 1 cl_Ground rfl 1 (by decide) tw_192 rfl rfl dX2_boundsOn_16 ?_
      refine nw_iload_n C dX2_boundsOn_19 rfl 3 rfl ?_
      refine nw_iconst (v := 0) C dX2_boundsOn_20 (by decide) ?_
      refine nc_callVI (q0 := 13) (As := [.int x3, .int 0]) (rest := []) C h (fun _ _ e => c_Table_get 2 (by decide) e hφ2) tw_841 kv_X9_get (cl_T 2 (by decide)) rfl ⟨Nat.le_of_ble_eq_true rfl, Nat.le_of_ble_eq_true rfl⟩ rfl dX2_boundsOn_21 rfl (Nat.le_of_ble_eq_true rfl) hφ hφ2 (fun r21 σ21 ta h hφ hφ2 => ?_)
      refine nw_istore (lv' := [(4, .int r21), (0, .ref (ad 1)), (1, .int x1), (2, .int x2), (3, .int x3)]) C dX2_boundsOn_24 (by decide) rfl ?_
      refine nw_aload_n C dX2_boundsOn_26 rfl 1 rfl ?_
      refine nw_get (v := .ref (ad 13)) C in_X2 1 cl_Ground rfl 1 (by decide) tw_192 rfl rfl dX2_boundsOn_27 ?_
      refine nw_iload_n C dX2_boundsOn_30 rfl 4 rfl ?_
      refine nw_iconst (v := 1) C dX2_boundsOn_31 (by decide) ?_
      refine nc_callVI (q0 := 13) (As := [.int x3, .int 1]) (rest := []) C h (fun _ _ e => c_Table_get 2 (by decide) e hφ2) tw_841 kv_X9_get (cl_T 2 (by decide)) rfl ⟨Nat.le_of_ble_eq_true rfl, Nat.le_of_ble_eq_true rfl⟩ rfl dX2_boundsOn_32 rfl (Nat.le_of_ble_eq_true rfl) hφ hφ2 (fun r32 σ32 ta h hφ hφ2 => ?_)
      refine nw_istore (lv' := [(5, .int r32), (4, .int r21), (0, .ref (ad 1)), (1, .int x1), (2, .int x2), (3, .int x3)]) C dX2_boundsOn_35 (by decide) rfl ?_
      refine nw_iload C dX2_boundsOn_37 1 rfl ?_
      refine nw_iload_n C dX2_boundsOn_39 rfl 3 rfl ?_
      refine nw_icmp_gt (tgt := 59) C dX2_boundsOn_40 (by decide) h (fun _ h => ?_) (fun _ h => ?_)
      · exact nw_lv (lv' := [(0, .ref (ad 1)), (1, .int x1), (2, .int x2), (3, .int x3), (4, .int r21)]) [2, 3, 4, 5, 1] rfl (w_Ground_boundsOn_59 C hr x1 x2 x3 r21 ih _ _ hφ hφ2 h)
      · refine nw_iload C dX2_boundsOn_43 0 rfl ?_
        refine nw_iconst (v := (-1)) C dX2_boundsOn_45 (by decide) ?_
        refine nw_icmp_eq (tgt := 55) C dX2_boundsOn_46 (by decide) h (fun _ h => ?_) (fun _ h => ?_)
        · refine nw_iconst (v := 1) C dX2_boundsOn_55 (by decide) ?_
          refine nw_goto (tgt := 60) C dX2_boundsOn_56 (by decide) ?_
          exact nw_lv (lv' := [(0, .ref (ad 1)), (1, .int x1), (2, .int x2), (3, .int x3), (4, .int r21)]) [2, 3, 4, 5, 1] rfl (w_Ground_boundsOn_60 C hr x1 x2 x3 r21 1 ih _ _ hφ hφ2 h)
        · refine nw_iload_n C dX2_boundsOn_49 rfl 3 rfl ?_
          refine nw_iload C dX2_boundsOn_50 0 rfl ?_
          refine nw_icmp_ge (tgt := 59) C dX2_boundsOn_52 (by decide) h (fun _ h => ?_) (fun _ h => ?_)
          · exact nw_lv (lv' := [(0, .ref (ad 1)), (1, .int x1), (2, .int x2), (3, .int x3), (4, .int r21)]) [2, 3, 4, 5, 1] rfl (w_Ground_boundsOn_59 C hr x1 x2 x3 r21 ih _ _ hφ hφ2 h)
          · refine nw_iconst (v := 1) C dX2_boundsOn_55 (by decide) ?_
            refine nw_goto (tgt := 60) C dX2_boundsOn_56 (by decide) ?_
            exact nw_lv (lv' := [(0, .ref (ad 1)), (1, .int x1), (2, .int x2), (3, .int x3), (4, .int r21)]) [2, 3, 4, 5, 1] rfl (w_Ground_boundsOn_60 C hr x1 x2 x3 r21 1 ih _ _ hφ hφ2 h)
def f_Ground_boundsOn (p0 : Int32) (σ : CS) : Option (Int32 × CS) := L_Ground_boundsOn_4 p0 FU (-1) 0 σ
set_option maxHeartbeats 4000000 in
set_option maxRecDepth 100000 in
theorem c_Ground_boundsOn {l : Launch} {g : EG} {ad ta : Nat → Nat} {Rr : va_W} {σ σ' : CS} {r : Int32} {p0 : Int32}  (h : f_Ground_boundsOn p0 σ = some (r, σ')) (hφ2 : ph σ.2.2 ≤ BB) : CtI l g yX2_boundsOn (.code yX2_boundsOn cX2_boundsOn 7 (some .int)) 1 23 ad ta Rr σ [.ref (ad 1), .int p0] r σ' := by
  refine Ct.of rfl (by decide) (Nat.le_of_ble_eq_true rfl) ?_
  intro p e s m args below meth c A C hr
  have hφ : ph σ.2.2 ≤ ph σ.2.2 := Nat.le_refl _
  refine nw_zero (ph σ.2.2) ?_
  show NI g p l e s m args below meth c A 1 23 7 ad Rr (ph σ.2.2) (r, σ') ta σ [(0, .ref (ad 1)), (1, .int p0)] 0 []
  unfold f_Ground_boundsOn at h
  refine nw_iconst (v := (-1)) C dX2_boundsOn_0 (by decide) ?_
  refine nw_istore_n (lv' := [(2, .int (-1)), (0, .ref (ad 1)), (1, .int p0)]) C dX2_boundsOn_1 rfl (by decide) rfl ?_
  refine nw_iconst (v := 0) C dX2_boundsOn_2 (by decide) ?_
  refine nw_istore_n (lv' := [(3, .int 0), (2, .int (-1)), (0, .ref (ad 1)), (1, .int p0)]) C dX2_boundsOn_3 rfl (by decide) rfl ?_
  exact nw_lv (lv' := [(0, .ref (ad 1)), (1, .int p0), (2, .int (-1)), (3, .int 0)]) [2, 3, 1, 0] rfl (w_Ground_boundsOn_4 C hr p0 FU (-1) 0 _ _ hφ hφ2 h)
end
