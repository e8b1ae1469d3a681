section
variable {g : EG} {p : Program} {l : Launch} {e : Env} {s : State} {m : MethodId} {args : Array Value} {below : List Frame} {meth : Method} {c : Code} {A : Nat → Prop} {ad am ta : Nat → Nat} {Rr : va_W} {φ0 : Nat}
theorem dX12_gives_0 : decode cX12_gives 0 = .ok (.iload_n 1, 1) := by decide +kernel
theorem dX12_gives_1 : decode cX12_gives 1 = .ok (.aload_n 0, 1) := by decide +kernel
theorem dX12_gives_2 : decode cX12_gives 2 = .ok (.getfield 622, 3) := by decide +kernel
theorem dX12_gives_5 : decode cX12_gives 5 = .ok (.if_icmp .ne 79, 3) := by decide +kernel
theorem dX12_gives_8 : decode cX12_gives 8 = .ok (.aload_n 0, 1) := by decide +kernel
theorem dX12_gives_9 : decode cX12_gives 9 = .ok (.getfield 217, 3) := by decide +kernel
theorem dX12_gives_12 : decode cX12_gives 12 = .ok (.iload_n 2, 1) := by decide +kernel
theorem dX12_gives_13 : decode cX12_gives 13 = .ok (.baload, 1) := by decide +kernel
theorem dX12_gives_14 : decode cX12_gives 14 = .ok (.ifCond .eq 30, 3) := by decide +kernel
theorem dX12_gives_17 : decode cX12_gives 17 = .ok (.iload 5, 2) := by decide +kernel
theorem dX12_gives_19 : decode cX12_gives 19 = .ok (.ifCond .eq 16, 3) := by decide +kernel
theorem dX12_gives_22 : decode cX12_gives 22 = .ok (.aload_n 0, 1) := by decide +kernel
theorem dX12_gives_23 : decode cX12_gives 23 = .ok (.getfield 217, 3) := by decide +kernel
theorem dX12_gives_26 : decode cX12_gives 26 = .ok (.sipush 256, 3) := by decide +kernel
theorem dX12_gives_29 : decode cX12_gives 29 = .ok (.iload_n 3, 1) := by decide +kernel
theorem dX12_gives_30 : decode cX12_gives 30 = .ok (.iadd, 1) := by decide +kernel
theorem dX12_gives_31 : decode cX12_gives 31 = .ok (.baload, 1) := by decide +kernel
theorem dX12_gives_32 : decode cX12_gives 32 = .ok (.ifCond .eq 12, 3) := by decide +kernel
theorem dX12_gives_35 : decode cX12_gives 35 = .ok (.iload 4, 2) := by decide +kernel
theorem dX12_gives_37 : decode cX12_gives 37 = .ok (.aload_n 0, 1) := by decide +kernel
theorem dX12_gives_38 : decode cX12_gives 38 = .ok (.getfield 626, 3) := by decide +kernel
theorem dX12_gives_41 : decode cX12_gives 41 = .ok (.if_icmp .gt 4, 3) := by decide +kernel
theorem dX12_gives_44 : decode cX12_gives 44 = .ok (.return_, 1) := by decide +kernel
theorem dX12_gives_45 : decode cX12_gives 45 = .ok (.aload_n 0, 1) := by decide +kernel
theorem dX12_gives_46 : decode cX12_gives 46 = .ok (.iload 4, 2) := by decide +kernel
theorem dX12_gives_48 : decode cX12_gives 48 = .ok (.putfield 626, 3) := by decide +kernel
theorem dX12_gives_51 : decode cX12_gives 51 = .ok (.iconst 0, 1) := by decide +kernel
theorem dX12_gives_52 : decode cX12_gives 52 = .ok (.istore 6, 2) := by decide +kernel
theorem dX12_gives_54 : decode cX12_gives 54 = .ok (.iload 6, 2) := by decide +kernel
theorem dX12_gives_56 : decode cX12_gives 56 = .ok (.aload_n 0, 1) := by decide +kernel
theorem dX12_gives_57 : decode cX12_gives 57 = .ok (.getfield 622, 3) := by decide +kernel
theorem dX12_gives_60 : decode cX12_gives 60 = .ok (.if_icmp .ge 23, 3) := by decide +kernel
theorem dX12_gives_63 : decode cX12_gives 63 = .ok (.aload_n 0, 1) := by decide +kernel
theorem dX12_gives_64 : decode cX12_gives 64 = .ok (.getfield 226, 3) := by decide +kernel
theorem dX12_gives_67 : decode cX12_gives 67 = .ok (.iload 6, 2) := by decide +kernel
theorem dX12_gives_69 : decode cX12_gives 69 = .ok (.aload_n 0, 1) := by decide +kernel
theorem dX12_gives_70 : decode cX12_gives 70 = .ok (.getfield 223, 3) := by decide +kernel
theorem dX12_gives_73 : decode cX12_gives 73 = .ok (.iload 6, 2) := by decide +kernel
theorem dX12_gives_75 : decode cX12_gives 75 = .ok (.iaload, 1) := by decide +kernel
theorem dX12_gives_76 : decode cX12_gives 76 = .ok (.iastore, 1) := by decide +kernel
theorem dX12_gives_77 : decode cX12_gives 77 = .ok (.iinc 6 1, 3) := by decide +kernel
theorem dX12_gives_80 : decode cX12_gives 80 = .ok (.goto (-26), 3) := by decide +kernel
theorem dX12_gives_83 : decode cX12_gives 83 = .ok (.return_, 1) := by decide +kernel
theorem dX12_gives_84 : decode cX12_gives 84 = .ok (.aload_n 0, 1) := by decide +kernel
theorem dX12_gives_85 : decode cX12_gives 85 = .ok (.getfield 223, 3) := by decide +kernel
theorem dX12_gives_88 : decode cX12_gives 88 = .ok (.iload_n 1, 1) := by decide +kernel
theorem dX12_gives_89 : decode cX12_gives 89 = .ok (.aload_n 0, 1) := by decide +kernel
theorem dX12_gives_90 : decode cX12_gives 90 = .ok (.getfield 220, 3) := by decide +kernel
theorem dX12_gives_93 : decode cX12_gives 93 = .ok (.iconst 0, 1) := by decide +kernel
theorem dX12_gives_94 : decode cX12_gives 94 = .ok (.iaload, 1) := by decide +kernel
theorem dX12_gives_95 : decode cX12_gives 95 = .ok (.iastore, 1) := by decide +kernel
theorem dX12_gives_96 : decode cX12_gives 96 = .ok (.aload_n 0, 1) := by decide +kernel
theorem dX12_gives_97 : decode cX12_gives 97 = .ok (.iload_n 1, 1) := by decide +kernel
theorem dX12_gives_98 : decode cX12_gives 98 = .ok (.iconst 1, 1) := by decide +kernel
theorem dX12_gives_99 : decode cX12_gives 99 = .ok (.iadd, 1) := by decide +kernel
theorem dX12_gives_100 : decode cX12_gives 100 = .ok (.iload_n 2, 1) := by decide +kernel
theorem dX12_gives_101 : decode cX12_gives 101 = .ok (.iconst 1, 1) := by decide +kernel
theorem dX12_gives_102 : decode cX12_gives 102 = .ok (.iload_n 1, 1) := by decide +kernel
theorem dX12_gives_103 : decode cX12_gives 103 = .ok (.ishl, 1) := by decide +kernel
theorem dX12_gives_104 : decode cX12_gives 104 = .ok (.ior, 1) := by decide +kernel
theorem dX12_gives_105 : decode cX12_gives 105 = .ok (.iload_n 3, 1) := by decide +kernel
theorem dX12_gives_106 : decode cX12_gives 106 = .ok (.iload 4, 2) := by decide +kernel
theorem dX12_gives_108 : decode cX12_gives 108 = .ok (.aload_n 0, 1) := by decide +kernel
theorem dX12_gives_109 : decode cX12_gives 109 = .ok (.getfield 211, 3) := by decide +kernel
theorem dX12_gives_112 : decode cX12_gives 112 = .ok (.iload_n 1, 1) := by decide +kernel
theorem dX12_gives_113 : decode cX12_gives 113 = .ok (.iaload, 1) := by decide +kernel
theorem dX12_gives_114 : decode cX12_gives 114 = .ok (.iadd, 1) := by decide +kernel
theorem dX12_gives_115 : decode cX12_gives 115 = .ok (.iload 5, 2) := by decide +kernel
theorem dX12_gives_117 : decode cX12_gives 117 = .ok (.invokevirtual 629, 3) := by decide +kernel
theorem dX12_gives_120 : decode cX12_gives 120 = .ok (.iload 5, 2) := by decide +kernel
theorem dX12_gives_122 : decode cX12_gives 122 = .ok (.ifCond .eq 38, 3) := by decide +kernel
theorem dX12_gives_125 : decode cX12_gives 125 = .ok (.aload_n 0, 1) := by decide +kernel
theorem dX12_gives_126 : decode cX12_gives 126 = .ok (.getfield 223, 3) := by decide +kernel
theorem dX12_gives_129 : decode cX12_gives 129 = .ok (.iload_n 1, 1) := by decide +kernel
theorem dX12_gives_130 : decode cX12_gives 130 = .ok (.aload_n 0, 1) := by decide +kernel
theorem dX12_gives_131 : decode cX12_gives 131 = .ok (.getfield 220, 3) := by decide +kernel
theorem dX12_gives_134 : decode cX12_gives 134 = .ok (.iconst 1, 1) := by decide +kernel
theorem dX12_gives_135 : decode cX12_gives 135 = .ok (.iaload, 1) := by decide +kernel
theorem dX12_gives_136 : decode cX12_gives 136 = .ok (.iastore, 1) := by decide +kernel
theorem dX12_gives_137 : decode cX12_gives 137 = .ok (.aload_n 0, 1) := by decide +kernel
theorem dX12_gives_138 : decode cX12_gives 138 = .ok (.iload_n 1, 1) := by decide +kernel
theorem dX12_gives_139 : decode cX12_gives 139 = .ok (.iconst 1, 1) := by decide +kernel
theorem dX12_gives_140 : decode cX12_gives 140 = .ok (.iadd, 1) := by decide +kernel
theorem dX12_gives_141 : decode cX12_gives 141 = .ok (.iload_n 2, 1) := by decide +kernel
theorem dX12_gives_142 : decode cX12_gives 142 = .ok (.iload_n 3, 1) := by decide +kernel
theorem dX12_gives_143 : decode cX12_gives 143 = .ok (.iconst 1, 1) := by decide +kernel
theorem dX12_gives_144 : decode cX12_gives 144 = .ok (.iload_n 1, 1) := by decide +kernel
theorem dX12_gives_145 : decode cX12_gives 145 = .ok (.ishl, 1) := by decide +kernel
theorem dX12_gives_146 : decode cX12_gives 146 = .ok (.ior, 1) := by decide +kernel
theorem dX12_gives_147 : decode cX12_gives 147 = .ok (.iload 4, 2) := by decide +kernel
theorem dX12_gives_149 : decode cX12_gives 149 = .ok (.aload_n 0, 1) := by decide +kernel
theorem dX12_gives_150 : decode cX12_gives 150 = .ok (.getfield 211, 3) := by decide +kernel
theorem dX12_gives_153 : decode cX12_gives 153 = .ok (.iload_n 1, 1) := by decide +kernel
theorem dX12_gives_154 : decode cX12_gives 154 = .ok (.iaload, 1) := by decide +kernel
theorem dX12_gives_155 : decode cX12_gives 155 = .ok (.iadd, 1) := by decide +kernel
theorem dX12_gives_156 : decode cX12_gives 156 = .ok (.iconst 1, 1) := by decide +kernel
theorem dX12_gives_157 : decode cX12_gives 157 = .ok (.invokevirtual 629, 3) := by decide +kernel
theorem dX12_gives_160 : decode cX12_gives 160 = .ok (.aload_n 0, 1) := by decide +kernel
theorem dX12_gives_161 : decode cX12_gives 161 = .ok (.getfield 223, 3) := by decide +kernel
theorem dX12_gives_164 : decode cX12_gives 164 = .ok (.iload_n 1, 1) := by decide +kernel
theorem dX12_gives_165 : decode cX12_gives 165 = .ok (.iconst (-1), 1) := by decide +kernel
theorem dX12_gives_166 : decode cX12_gives 166 = .ok (.iastore, 1) := by decide +kernel
theorem dX12_gives_167 : decode cX12_gives 167 = .ok (.aload_n 0, 1) := by decide +kernel
theorem dX12_gives_168 : decode cX12_gives 168 = .ok (.iload_n 1, 1) := by decide +kernel
theorem dX12_gives_169 : decode cX12_gives 169 = .ok (.iconst 1, 1) := by decide +kernel
theorem dX12_gives_170 : decode cX12_gives 170 = .ok (.iadd, 1) := by decide +kernel
theorem dX12_gives_171 : decode cX12_gives 171 = .ok (.iload_n 2, 1) := by decide +kernel
theorem dX12_gives_172 : decode cX12_gives 172 = .ok (.iload_n 3, 1) := by decide +kernel
theorem dX12_gives_173 : decode cX12_gives 173 = .ok (.iload 4, 2) := by decide +kernel
theorem dX12_gives_175 : decode cX12_gives 175 = .ok (.iload 5, 2) := by decide +kernel
theorem dX12_gives_177 : decode cX12_gives 177 = .ok (.invokevirtual 629, 3) := by decide +kernel
theorem dX12_gives_180 : decode cX12_gives 180 = .ok (.return_, 1) := by decide +kernel
def L_M_gives_54 (rc : Nat → Int32 → Int32 → Int32 → Int32 → Int32 → CS → Option (Int32 × CS))   : Nat → Int32 → CS → Option (Int32 × CS)
  | 0, _, _ => none
  | n + 1, x6, σ => if (σ.1 92) ≤ x6 then some (0, σ) else gix x6 8 (gix x6 8 ((L_M_gives_54 rc n) (x6 + 1) (wr σ 100 x6 (rd σ 99 x6))))
set_option maxHeartbeats 4000000 in
set_option maxRecDepth 100000 in
theorem w_M_gives_54 (C : Cx g p s m args meth c A 7 cX12_gives yX12_gives.cls) (hr : meth.sig.returnType = none) {d : Nat} {rc : Nat → Int32 → Int32 → Int32 → Int32 → Int32 → CS → Option (Int32 × CS)} (hrc0 : ∀ {l : Launch} {g : EG} {am : Nat → Nat} {Rr : va_W} {σ σ' : CS} {r : Int32} {a0 a1 a2 a3 a4 : Int32}, rc 0 a0 a1 a2 a3 a4 σ = some (r, σ') → CmV l g yX12_gives (.code yX12_gives cX12_gives 7 none) (10 * d) (400 * d) am Rr σ [.ref (am 112), .int a0, .int a1, .int a2, .int a3, .int a4] r σ')  {res : Int32 × CS}    : ∀ (n : Nat) (x6 : Int32) (σ : CS), L_M_gives_54 rc n x6 σ = some res → NMV g p l e s m args below meth c A (10 * d + 10) (400 * d + 400) 7 am Rr res σ [(0, .ref (am 112)), (6, .int x6)] 54 [] := by
  intro n
  induction n with
  | zero =>
    intro x6 σ h
    exact absurd (show (none : Option (Int32 × CS)) = some res from h) (by intro h9; cases h9)
  | succ n ih =>
    intro x6 σ h
    rw [L_M_gives_54] at h
    refine nw_iload C dX12_gives_54 1 rfl ?_
    refine nw_aload_n C dX12_gives_56 rfl 0 rfl ?_
    refine nw_get (v := .int (σ.1 92)) C in_X12 0 ml_O rfl 92 (by decide) tw_1665 rfl mf_92 dX12_gives_57 ?_
    refine nw_icmp_ge (tgt := 83) C dX12_gives_60 (by decide) h (fun _ h => ?_) (fun _ h => ?_)
    · exact nm_vret C hr dX12_gives_83 h
    · refine nw_aload_n C dX12_gives_63 rfl 0 rfl ?_
      refine nw_get (v := .ref (am 100)) C in_X12 0 ml_O rfl 100 (by decide) tw_1673 rfl mf_100 dX12_gives_64 ?_
      refine nw_iload C dX12_gives_67 1 rfl ?_
      refine nw_aload_n C dX12_gives_69 rfl 0 rfl ?_
      refine nw_get (v := .ref (am 99)) C in_X12 0 ml_O rfl 99 (by decide) tw_1672 rfl mf_99 dX12_gives_70 ?_
      refine nw_iload C dX12_gives_73 1 rfl ?_
      refine nw_iald C 70 ml_99 dX12_gives_75 h (fun h => ?_)
      refine nw_iast C 71 ml_100 dX12_gives_76 h ms_100 (fun h => ?_)
      refine nw_iinc (lv' := [(6, .int (x6 + 1)), (0, .ref (am 112))]) C (x6 + 1) dX12_gives_77 1 rfl rfl (by decide) rfl ?_
      refine nw_goto (tgt := 54) C dX12_gives_80 (by decide) ?_
      exact nw_lv (lv' := [(0, .ref (am 112)), (6, .int (x6 + 1))]) [1, 0] rfl (ih (x6 + 1) _ h)
def B_M_gives_35 (rc : Nat → Int32 → Int32 → Int32 → Int32 → Int32 → CS → Option (Int32 × CS))   (x4 : Int32) (σ : CS) : Option (Int32 × CS) := if (σ.1 101) < x4 then L_M_gives_54 rc FU 0 (sF σ 101 x4) else some (0, σ)
set_option maxHeartbeats 4000000 in
set_option maxRecDepth 100000 in
theorem w_M_gives_35 (C : Cx g p s m args meth c A 7 cX12_gives yX12_gives.cls) (hr : meth.sig.returnType = none) {d : Nat} {rc : Nat → Int32 → Int32 → Int32 → Int32 → Int32 → CS → Option (Int32 × CS)} (hrc0 : ∀ {l : Launch} {g : EG} {am : Nat → Nat} {Rr : va_W} {σ σ' : CS} {r : Int32} {a0 a1 a2 a3 a4 : Int32}, rc 0 a0 a1 a2 a3 a4 σ = some (r, σ') → CmV l g yX12_gives (.code yX12_gives cX12_gives 7 none) (10 * d) (400 * d) am Rr σ [.ref (am 112), .int a0, .int a1, .int a2, .int a3, .int a4] r σ')  {res : Int32 × CS}   (x4 : Int32)  (σ : CS) (h : B_M_gives_35 rc x4 σ = some res) : NMV g p l e s m args below meth c A (10 * d + 10) (400 * d + 400) 7 am Rr res σ [(0, .ref (am 112)), (4, .int x4)] 35 [] := by
  unfold B_M_gives_35 at h
  refine nw_iload C dX12_gives_35 1 rfl ?_
  refine nw_aload_n C dX12_gives_37 rfl 0 rfl ?_
  refine nw_get (v := .int (σ.1 101)) C in_X12 0 ml_O rfl 101 (by decide) tw_1674 rfl mf_101 dX12_gives_38 ?_
  refine nw_icmp_gt (tgt := 45) C dX12_gives_41 (by decide) h (fun _ h => ?_) (fun _ h => ?_)
  · refine nw_aload_n C dX12_gives_45 rfl 0 rfl ?_
    refine nw_iload C dX12_gives_46 1 rfl ?_
    refine nw_put (ty := .int) C in_X12 0 ml_O rfl 101 (by decide) tyX12 tyX12_ok nmX12 tw_1674 rfl rfl (by decide +kernel) rfl rfl (Nat.le_of_ble_eq_true rfl) dX12_gives_48 ms_101 ?_
    refine nw_iconst (v := 0) C dX12_gives_51 (by decide) ?_
    refine nw_istore (lv' := [(6, .int 0), (0, .ref (am 112)), (4, .int x4)]) C dX12_gives_52 (by decide) rfl ?_
    exact nw_lv (lv' := [(0, .ref (am 112)), (6, .int 0)]) [1, 0] rfl (w_M_gives_54 C hr hrc0 FU 0 _ h)
  · exact nm_vret C hr dX12_gives_44 h
def B_M_gives_160 (rc : Nat → Int32 → Int32 → Int32 → Int32 → Int32 → CS → Option (Int32 × CS))   (x1 : Int32) (x2 : Int32) (x3 : Int32) (x4 : Int32) (x5 : Int32) (σ : CS) : Option (Int32 × CS) := gix x1 8 (bnd (rc 0 (x1 + 1) x2 x3 x4 x5 (wr σ 99 x1 (-1))) (fun _ σ177 => some (0, σ177)))
set_option maxHeartbeats 4000000 in
set_option maxRecDepth 100000 in
theorem w_M_gives_160 (C : Cx g p s m args meth c A 7 cX12_gives yX12_gives.cls) (hr : meth.sig.returnType = none) {d : Nat} {rc : Nat → Int32 → Int32 → Int32 → Int32 → Int32 → CS → Option (Int32 × CS)} (hrc0 : ∀ {l : Launch} {g : EG} {am : Nat → Nat} {Rr : va_W} {σ σ' : CS} {r : Int32} {a0 a1 a2 a3 a4 : Int32}, rc 0 a0 a1 a2 a3 a4 σ = some (r, σ') → CmV l g yX12_gives (.code yX12_gives cX12_gives 7 none) (10 * d) (400 * d) am Rr σ [.ref (am 112), .int a0, .int a1, .int a2, .int a3, .int a4] r σ')  {res : Int32 × CS}   (x1 : Int32) (x2 : Int32) (x3 : Int32) (x4 : Int32) (x5 : Int32)  (σ : CS) (h : B_M_gives_160 rc x1 x2 x3 x4 x5 σ = some res) : NMV g p l e s m args below meth c A (10 * d + 10) (400 * d + 400) 7 am Rr res σ [(0, .ref (am 112)), (1, .int x1), (2, .int x2), (3, .int x3), (4, .int x4), (5, .int x5)] 160 [] := by
  unfold B_M_gives_160 at h
  refine nw_aload_n C dX12_gives_160 rfl 0 rfl ?_
  refine nw_get (v := .ref (am 99)) C in_X12 0 ml_O rfl 99 (by decide) tw_1672 rfl mf_99 dX12_gives_161 ?_
  refine nw_iload_n C dX12_gives_164 rfl 1 rfl ?_
  refine nw_iconst (v := (-1)) C dX12_gives_165 (by decide) ?_
  refine nw_iast C 70 ml_99 dX12_gives_166 h ms_99 (fun h => ?_)
  refine nw_aload_n C dX12_gives_167 rfl 0 rfl ?_
  refine nw_iload_n C dX12_gives_168 rfl 1 rfl ?_
  refine nw_iconst (v := 1) C dX12_gives_169 (by decide) ?_
  refine nw_iadd C dX12_gives_170 ?_
  refine nw_iload_n C dX12_gives_171 rfl 2 rfl ?_
  refine nw_iload_n C dX12_gives_172 rfl 3 rfl ?_
  refine nw_iload C dX12_gives_173 4 rfl ?_
  refine nw_iload C dX12_gives_175 5 rfl ?_
  refine nm_callVV (q0 := 0) (As := [.int (x1 + 1), .int x2, .int x3, .int x4, .int x5]) (rest := []) C h (fun _ _ e => hrc0 e) tw_2360 kv_X12_gives ml_O rfl ⟨by omega, by omega⟩ rfl dX12_gives_177 rfl (Nat.le_of_ble_eq_true rfl) (fun r177 σ177 h => ?_)
  exact nm_vret C hr dX12_gives_180 h
def f_M_gives (rc : Nat → Int32 → Int32 → Int32 → Int32 → Int32 → CS → Option (Int32 × CS)) (p0 : Int32) (p1 : Int32) (p2 : Int32) (p3 : Int32) (p4 : Int32) (σ : CS) : Option (Int32 × CS) := if p0 = (σ.1 92) then gix p1 512 (if (rd σ 97 p1) = 0 then some (0, σ) else if p4 = 0 then B_M_gives_35 rc p3 σ else gix (256 + p2) 512 (if (rd σ 97 (256 + p2)) = 0 then some (0, σ) else B_M_gives_35 rc p3 σ)) else gix 0 2 (gix p0 8 (gix p0 8 (bnd (rc 0 (p0 + 1) (p1 ||| ((1 : Int32) <<< (p0 &&& 31))) p2 (p3 + (rd σ 95 p0)) p4 (wr σ 99 p0 (rd σ 98 0))) (fun _ σ117 => if p4 = 0 then B_M_gives_160 rc p0 p1 p2 p3 p4 σ117 else gix 1 2 (gix p0 8 (gix p0 8 (bnd (rc 0 (p0 + 1) p1 (p2 ||| ((1 : Int32) <<< (p0 &&& 31))) (p3 + (rd σ117 95 p0)) 1 (wr σ117 99 p0 (rd σ117 98 1))) (fun _ σ157 => B_M_gives_160 rc p0 p1 p2 p3 p4 σ157))))))))
set_option maxHeartbeats 4000000 in
set_option maxRecDepth 100000 in
theorem c_M_gives {l : Launch} {g : EG} {am : Nat → Nat} {Rr : va_W} {σ σ' : CS} {r : Int32} {p0 : Int32} {p1 : Int32} {p2 : Int32} {p3 : Int32} {p4 : Int32} {d : Nat} {rc : Nat → Int32 → Int32 → Int32 → Int32 → Int32 → CS → Option (Int32 × CS)} (hrc0 : ∀ {l : Launch} {g : EG} {am : Nat → Nat} {Rr : va_W} {σ σ' : CS} {r : Int32} {a0 a1 a2 a3 a4 : Int32}, rc 0 a0 a1 a2 a3 a4 σ = some (r, σ') → CmV l g yX12_gives (.code yX12_gives cX12_gives 7 none) (10 * d) (400 * d) am Rr σ [.ref (am 112), .int a0, .int a1, .int a2, .int a3, .int a4] r σ')  (h : f_M_gives rc p0 p1 p2 p3 p4 σ = some (r, σ')) : CmV l g yX12_gives (.code yX12_gives cX12_gives 7 none) (10 * d + 10) (400 * d + 400) am Rr σ [.ref (am 112), .int p0, .int p1, .int p2, .int p3, .int p4] r σ' := by
  refine Ct.of rfl (by decide) (Nat.le_of_ble_eq_true rfl) ?_
  intro p e s m args below meth c A C hr
  show NMV g p l e s m args below meth c A (10 * d + 10) (400 * d + 400) 7 am Rr (r, σ') σ [(0, .ref (am 112)), (1, .int p0), (2, .int p1), (3, .int p2), (4, .int p3), (5, .int p4)] 0 []
  unfold f_M_gives at h
  refine nw_iload_n C dX12_gives_0 rfl 1 rfl ?_
  refine nw_aload_n C dX12_gives_1 rfl 0 rfl ?_
  refine nw_get (v := .int (σ.1 92)) C in_X12 0 ml_O rfl 92 (by decide) tw_1665 rfl mf_92 dX12_gives_2 ?_
  refine nw_icmp_ne (tgt := 84) C dX12_gives_5 (by decide) h (fun _ h => ?_) (fun _ h => ?_)
  · refine nw_aload_n C dX12_gives_8 rfl 0 rfl ?_
    refine nw_get (v := .ref (am 97)) C in_X12 0 ml_O rfl 97 (by decide) tw_1670 rfl mf_97 dX12_gives_9 ?_
    refine nw_iload_n C dX12_gives_12 rfl 2 rfl ?_
    refine nw_zald C 68 ml_97 dX12_gives_13 h (fun h => ?_)
    refine nw_if_eq (tgt := 44) C dX12_gives_14 (by decide) h (fun _ h => ?_) (fun _ h => ?_)
    · exact nm_vret C hr dX12_gives_44 h
    · refine nw_iload C dX12_gives_17 5 rfl ?_
      refine nw_if_eq (tgt := 35) C dX12_gives_19 (by decide) h (fun _ h => ?_) (fun _ h => ?_)
      · exact nw_lv (lv' := [(0, .ref (am 112)), (4, .int p3)]) [0, 4] rfl (w_M_gives_35 C hr hrc0 p3 _ h)
      · refine nw_aload_n C dX12_gives_22 rfl 0 rfl ?_
        refine nw_get (v := .ref (am 97)) C in_X12 0 ml_O rfl 97 (by decide) tw_1670 rfl mf_97 dX12_gives_23 ?_
        refine nw_sipush (v := 256) C dX12_gives_26 (by decide) ?_
        refine nw_iload_n C dX12_gives_29 rfl 3 rfl ?_
        refine nw_iadd C dX12_gives_30 ?_
        refine nw_zald C 68 ml_97 dX12_gives_31 h (fun h => ?_)
        refine nw_if_eq (tgt := 44) C dX12_gives_32 (by decide) h (fun _ h => ?_) (fun _ h => ?_)
        · exact nm_vret C hr dX12_gives_44 h
        · exact nw_lv (lv' := [(0, .ref (am 112)), (4, .int p3)]) [0, 4] rfl (w_M_gives_35 C hr hrc0 p3 _ h)
  · refine nw_aload_n C dX12_gives_84 rfl 0 rfl ?_
    refine nw_get (v := .ref (am 99)) C in_X12 0 ml_O rfl 99 (by decide) tw_1672 rfl mf_99 dX12_gives_85 ?_
    refine nw_iload_n C dX12_gives_88 rfl 1 rfl ?_
    refine nw_aload_n C dX12_gives_89 rfl 0 rfl ?_
    refine nw_get (v := .ref (am 98)) C in_X12 0 ml_O rfl 98 (by decide) tw_1671 rfl mf_98 dX12_gives_90 ?_
    refine nw_iconst (v := 0) C dX12_gives_93 (by decide) ?_
    refine nw_iald C 69 ml_98 dX12_gives_94 h (fun h => ?_)
    refine nw_iast C 70 ml_99 dX12_gives_95 h ms_99 (fun h => ?_)
    refine nw_aload_n C dX12_gives_96 rfl 0 rfl ?_
    refine nw_iload_n C dX12_gives_97 rfl 1 rfl ?_
    refine nw_iconst (v := 1) C dX12_gives_98 (by decide) ?_
    refine nw_iadd C dX12_gives_99 ?_
    refine nw_iload_n C dX12_gives_100 rfl 2 rfl ?_
    refine nw_iconst (v := 1) C dX12_gives_101 (by decide) ?_
    refine nw_iload_n C dX12_gives_102 rfl 1 rfl ?_
    refine nw_ishl C dX12_gives_103 ?_
    refine nw_ior C dX12_gives_104 ?_
    refine nw_iload_n C dX12_gives_105 rfl 3 rfl ?_
    refine nw_iload C dX12_gives_106 4 rfl ?_
    refine nw_aload_n C dX12_gives_108 rfl 0 rfl ?_
    refine nw_get (v := .ref (am 95)) C in_X12 0 ml_O rfl 95 (by decide) tw_1668 rfl mf_95 dX12_gives_109 ?_
    refine nw_iload_n C dX12_gives_112 rfl 1 rfl ?_
    refine nw_iald C 66 ml_95 dX12_gives_113 h (fun h => ?_)
    refine nw_st (st' := [.int (rd σ 95 p0), .int p3, .int p2, .int (p1 ||| ((1 : Int32) <<< (p0 &&& 31))), .int (p0 + 1), .ref (am 112)]) rfl ?_
    refine nw_iadd C dX12_gives_114 ?_
    refine nw_iload C dX12_gives_115 5 rfl ?_
    refine nm_callVV (q0 := 0) (As := [.int (p0 + 1), .int (p1 ||| ((1 : Int32) <<< (p0 &&& 31))), .int p2, .int (p3 + (rd σ 95 p0)), .int p4]) (rest := []) C h (fun _ _ e => hrc0 e) tw_2360 kv_X12_gives ml_O rfl ⟨by omega, by omega⟩ rfl dX12_gives_117 rfl (Nat.le_of_ble_eq_true rfl) (fun r117 σ117 h => ?_)
    refine nw_iload C dX12_gives_120 5 rfl ?_
    refine nw_if_eq (tgt := 160) C dX12_gives_122 (by decide) h (fun _ h => ?_) (fun _ h => ?_)
    · exact nw_lv (lv' := [(0, .ref (am 112)), (1, .int p0), (2, .int p1), (3, .int p2), (4, .int p3), (5, .int p4)]) [0, 1, 2, 3, 4, 5] rfl (w_M_gives_160 C hr hrc0 p0 p1 p2 p3 p4 _ h)
    · refine nw_aload_n C dX12_gives_125 rfl 0 rfl ?_
      refine nw_get (v := .ref (am 99)) C in_X12 0 ml_O rfl 99 (by decide) tw_1672 rfl mf_99 dX12_gives_126 ?_
      refine nw_iload_n C dX12_gives_129 rfl 1 rfl ?_
      refine nw_aload_n C dX12_gives_130 rfl 0 rfl ?_
      refine nw_get (v := .ref (am 98)) C in_X12 0 ml_O rfl 98 (by decide) tw_1671 rfl mf_98 dX12_gives_131 ?_
      refine nw_iconst (v := 1) C dX12_gives_134 (by decide) ?_
      refine nw_iald C 69 ml_98 dX12_gives_135 h (fun h => ?_)
      refine nw_iast C 70 ml_99 dX12_gives_136 h ms_99 (fun h => ?_)
      refine nw_aload_n C dX12_gives_137 rfl 0 rfl ?_
      refine nw_iload_n C dX12_gives_138 rfl 1 rfl ?_
      refine nw_iconst (v := 1) C dX12_gives_139 (by decide) ?_
      refine nw_iadd C dX12_gives_140 ?_
      refine nw_iload_n C dX12_gives_141 rfl 2 rfl ?_
      refine nw_iload_n C dX12_gives_142 rfl 3 rfl ?_
      refine nw_iconst (v := 1) C dX12_gives_143 (by decide) ?_
      refine nw_iload_n C dX12_gives_144 rfl 1 rfl ?_
      refine nw_ishl C dX12_gives_145 ?_
      refine nw_ior C dX12_gives_146 ?_
      refine nw_iload C dX12_gives_147 4 rfl ?_
      refine nw_aload_n C dX12_gives_149 rfl 0 rfl ?_
      refine nw_get (v := .ref (am 95)) C in_X12 0 ml_O rfl 95 (by decide) tw_1668 rfl mf_95 dX12_gives_150 ?_
      refine nw_iload_n C dX12_gives_153 rfl 1 rfl ?_
      refine nw_iald C 66 ml_95 dX12_gives_154 h (fun h => ?_)
      refine nw_st (st' := [.int (rd σ117 95 p0), .int p3, .int (p2 ||| ((1 : Int32) <<< (p0 &&& 31))), .int p1, .int (p0 + 1), .ref (am 112)]) rfl ?_
      refine nw_iadd C dX12_gives_155 ?_
      refine nw_iconst (v := 1) C dX12_gives_156 (by decide) ?_
      refine nm_callVV (q0 := 0) (As := [.int (p0 + 1), .int p1, .int (p2 ||| ((1 : Int32) <<< (p0 &&& 31))), .int (p3 + (rd σ117 95 p0)), .int 1]) (rest := []) C h (fun _ _ e => hrc0 e) tw_2360 kv_X12_gives ml_O rfl ⟨by omega, by omega⟩ rfl dX12_gives_157 rfl (Nat.le_of_ble_eq_true rfl) (fun r157 σ157 h => ?_)
      exact nw_lv (lv' := [(0, .ref (am 112)), (1, .int p0), (2, .int p1), (3, .int p2), (4, .int p3), (5, .int p4)]) [0, 1, 2, 3, 4, 5] rfl (w_M_gives_160 C hr hrc0 p0 p1 p2 p3 p4 _ h)
def g_MG : Nat → Nat → Int32 → Int32 → Int32 → Int32 → Int32 → CS → Option (Int32 × CS)
  | 0, _, _, _, _, _, _, _ => none
  | d + 1, tag, a0, a1, a2, a3, a4, σ => if tag = 0 then f_M_gives (g_MG d) a0 a1 a2 a3 a4 σ else none
set_option maxHeartbeats 4000000 in
theorem cg_MG (d : Nat) : (∀ {l : Launch} {g : EG} {am : Nat → Nat} {Rr : va_W} {σ σ' : CS} {r : Int32} {a0 a1 a2 a3 a4 : Int32}, g_MG d 0 a0 a1 a2 a3 a4 σ = some (r, σ') → CmV l g yX12_gives (.code yX12_gives cX12_gives 7 none) (10 * d) (400 * d) am Rr σ [.ref (am 112), .int a0, .int a1, .int a2, .int a3, .int a4] r σ') := by
  induction d with
  | zero => exact fun h => absurd (show (none : Option (Int32 × CS)) = some _ from h) (by intro h9; cases h9)
  | succ d ih =>
    have i0 := @ih
    exact (by intro l g am Rr σ σ' r a0 a1 a2 a3 a4 h; exact c_M_gives @i0 h)
theorem cg_M_gives (d : Nat) : ∀ {l : Launch} {g : EG} {am : Nat → Nat} {Rr : va_W} {σ σ' : CS} {r : Int32} {a0 a1 a2 a3 a4 : Int32}, g_MG d 0 a0 a1 a2 a3 a4 σ = some (r, σ') → CmV l g yX12_gives (.code yX12_gives cX12_gives 7 none) (10 * d) (400 * d) am Rr σ [.ref (am 112), .int a0, .int a1, .int a2, .int a3, .int a4] r σ' := fun h => (cg_MG d) h
theorem dX12_beaten_0 : decode cX12_beaten 0 = .ok (.iconst 0, 1) := by decide +kernel
theorem dX12_beaten_1 : decode cX12_beaten 1 = .ok (.istore_n 1, 1) := by decide +kernel
theorem dX12_beaten_2 : decode cX12_beaten 2 = .ok (.iconst 0, 1) := by decide +kernel
theorem dX12_beaten_3 : decode cX12_beaten 3 = .ok (.istore_n 2, 1) := by decide +kernel
theorem dX12_beaten_4 : decode cX12_beaten 4 = .ok (.iload_n 2, 1) := by decide +kernel
theorem dX12_beaten_5 : decode cX12_beaten 5 = .ok (.aload_n 0, 1) := by decide +kernel
theorem dX12_beaten_6 : decode cX12_beaten 6 = .ok (.getfield 519, 3) := by decide +kernel
theorem dX12_beaten_9 : decode cX12_beaten 9 = .ok (.if_icmp .ge 41, 3) := by decide +kernel
theorem dX12_beaten_12 : decode cX12_beaten 12 = .ok (.iload_n 1, 1) := by decide +kernel
theorem dX12_beaten_13 : decode cX12_beaten 13 = .ok (.iconst 2, 1) := by decide +kernel
theorem dX12_beaten_14 : decode cX12_beaten 14 = .ok (.if_icmp .ge 36, 3) := by decide +kernel
theorem dX12_beaten_17 : decode cX12_beaten 17 = .ok (.aload_n 0, 1) := by decide +kernel
theorem dX12_beaten_18 : decode cX12_beaten 18 = .ok (.getfield 193, 3) := by decide +kernel
theorem dX12_beaten_21 : decode cX12_beaten 21 = .ok (.iload_n 2, 1) := by decide +kernel
theorem dX12_beaten_22 : decode cX12_beaten 22 = .ok (.baload, 1) := by decide +kernel
theorem dX12_beaten_23 : decode cX12_beaten 23 = .ok (.ifCond .ne 6, 3) := by decide +kernel
theorem dX12_beaten_26 : decode cX12_beaten 26 = .ok (.goto 18, 3) := by decide +kernel
theorem dX12_beaten_29 : decode cX12_beaten 29 = .ok (.aload_n 0, 1) := by decide +kernel
theorem dX12_beaten_30 : decode cX12_beaten 30 = .ok (.getfield 220, 3) := by decide +kernel
theorem dX12_beaten_33 : decode cX12_beaten 33 = .ok (.iload_n 1, 1) := by decide +kernel
theorem dX12_beaten_34 : decode cX12_beaten 34 = .ok (.iload_n 2, 1) := by decide +kernel
theorem dX12_beaten_35 : decode cX12_beaten 35 = .ok (.iastore, 1) := by decide +kernel
theorem dX12_beaten_36 : decode cX12_beaten 36 = .ok (.aload_n 0, 1) := by decide +kernel
theorem dX12_beaten_37 : decode cX12_beaten 37 = .ok (.iload_n 1, 1) := by decide +kernel
theorem dX12_beaten_38 : decode cX12_beaten 38 = .ok (.invokevirtual 633, 3) := by decide +kernel
theorem dX12_beaten_41 : decode cX12_beaten 41 = .ok (.iinc 1 1, 3) := by decide +kernel
theorem dX12_beaten_44 : decode cX12_beaten 44 = .ok (.iinc 2 1, 3) := by decide +kernel
theorem dX12_beaten_47 : decode cX12_beaten 47 = .ok (.goto (-43), 3) := by decide +kernel
theorem dX12_beaten_50 : decode cX12_beaten 50 = .ok (.aload_n 0, 1) := by decide +kernel
theorem dX12_beaten_51 : decode cX12_beaten 51 = .ok (.iconst (-1), 1) := by decide +kernel
theorem dX12_beaten_52 : decode cX12_beaten 52 = .ok (.putfield 626, 3) := by decide +kernel
theorem dX12_beaten_55 : decode cX12_beaten 55 = .ok (.iload_n 1, 1) := by decide +kernel
theorem dX12_beaten_56 : decode cX12_beaten 56 = .ok (.ifCond .le 21, 3) := by decide +kernel
theorem dX12_beaten_59 : decode cX12_beaten 59 = .ok (.aload_n 0, 1) := by decide +kernel
theorem dX12_beaten_60 : decode cX12_beaten 60 = .ok (.iconst 0, 1) := by decide +kernel
theorem dX12_beaten_61 : decode cX12_beaten 61 = .ok (.iconst 0, 1) := by decide +kernel
theorem dX12_beaten_62 : decode cX12_beaten 62 = .ok (.iconst 0, 1) := by decide +kernel
theorem dX12_beaten_63 : decode cX12_beaten 63 = .ok (.iconst 0, 1) := by decide +kernel
theorem dX12_beaten_64 : decode cX12_beaten 64 = .ok (.iload_n 1, 1) := by decide +kernel
theorem dX12_beaten_65 : decode cX12_beaten 65 = .ok (.iconst 2, 1) := by decide +kernel
theorem dX12_beaten_66 : decode cX12_beaten 66 = .ok (.if_icmp .ne 7, 3) := by decide +kernel
theorem dX12_beaten_69 : decode cX12_beaten 69 = .ok (.iconst 1, 1) := by decide +kernel
theorem dX12_beaten_70 : decode cX12_beaten 70 = .ok (.goto 4, 3) := by decide +kernel
theorem dX12_beaten_73 : decode cX12_beaten 73 = .ok (.iconst 0, 1) := by decide +kernel
theorem dX12_beaten_74 : decode cX12_beaten 74 = .ok (.invokevirtual 629, 3) := by decide +kernel
theorem dX12_beaten_77 : decode cX12_beaten 77 = .ok (.iload_n 1, 1) := by decide +kernel
theorem dX12_beaten_78 : decode cX12_beaten 78 = .ok (.ifCond .le 7, 3) := by decide +kernel
theorem dX12_beaten_81 : decode cX12_beaten 81 = .ok (.iconst 1, 1) := by decide +kernel
theorem dX12_beaten_82 : decode cX12_beaten 82 = .ok (.goto 4, 3) := by decide +kernel
theorem dX12_beaten_85 : decode cX12_beaten 85 = .ok (.iconst 0, 1) := by decide +kernel
theorem dX12_beaten_86 : decode cX12_beaten 86 = .ok (.ireturn, 1) := by decide +kernel
def L_M_beaten_4 (k50 : Int32 → CS → Option (Int32 × CS))  : Nat → Int32 → Int32 → CS → Option (Int32 × CS)
  | 0, _, _, _ => none
  | n + 1, x1, x2, σ => if (σ.1 44) ≤ x2 then k50 x1 σ else if 2 ≤ x1 then k50 x1 σ else gix x2 6 (if (rd σ 88 x2) = 0 then (L_M_beaten_4 k50 n) x1 (x2 + 1) σ else gix x1 2 (bnd (f_M_rounds x1 (wr σ 98 x1 x2)) (fun _ σ38 => (L_M_beaten_4 k50 n) (x1 + 1) (x2 + 1) σ38)))
set_option maxHeartbeats 4000000 in
set_option maxRecDepth 100000 in
theorem w_M_beaten_4 (C : Cx g p s m args meth c A 3 cX12_beaten yX12_beaten.cls) (hr : meth.sig.returnType = (some .boolean))  {res : Int32 × CS}   {k50 : Int32 → CS → Option (Int32 × CS)} (hk50 : ∀ (x1 : Int32) (σ : CS), k50 x1 σ = some res → NMI g p l e s m args below meth c A 161 6426 3 am Rr res σ [(0, .ref (am 112)), (1, .int x1)] 50 []) : ∀ (n : Nat) (x1 : Int32) (x2 : Int32) (σ : CS), L_M_beaten_4 k50 n x1 x2 σ = some res → NMI g p l e s m args below meth c A 161 6426 3 am Rr res σ [(0, .ref (am 112)), (1, .int x1), (2, .int x2)] 4 [] := by
  intro n
  induction n with
  | zero =>
    intro x1 x2 σ h
    exact absurd (show (none : Option (Int32 × CS)) = some res from h) (by intro h9; cases h9)
  | succ n ih =>
    intro x1 x2 σ h
    rw [L_M_beaten_4] at h
    refine nw_iload_n C dX12_beaten_4 rfl 2 rfl ?_
    refine nw_aload_n C dX12_beaten_5 rfl 0 rfl ?_
    refine nw_get (v := .int (σ.1 44)) C in_X12 0 ml_O rfl 44 (by decide) tw_1617 rfl mf_44 dX12_beaten_6 ?_
    refine nw_icmp_ge (tgt := 50) C dX12_beaten_9 (by decide) h (fun _ h => ?_) (fun _ h => ?_)
    · exact nw_lv (lv' := [(0, .ref (am 112)), (1, .int x1)]) [0, 1] rfl (hk50 x1 _ h)
    · refine nw_iload_n C dX12_beaten_12 rfl 1 rfl ?_
      refine nw_iconst (v := 2) C dX12_beaten_13 (by decide) ?_
      refine nw_icmp_ge (tgt := 50) C dX12_beaten_14 (by decide) h (fun _ h => ?_) (fun _ h => ?_)
      · exact nw_lv (lv' := [(0, .ref (am 112)), (1, .int x1)]) [0, 1] rfl (hk50 x1 _ h)
      · refine nw_aload_n C dX12_beaten_17 rfl 0 rfl ?_
        refine nw_get (v := .ref (am 88)) C in_X12 0 ml_O rfl 88 (by decide) tw_1661 rfl mf_88 dX12_beaten_18 ?_
        refine nw_iload_n C dX12_beaten_21 rfl 2 rfl ?_
        refine nw_zald C 60 ml_88 dX12_beaten_22 h (fun h => ?_)
        refine nw_if_ne (tgt := 29) C dX12_beaten_23 (by decide) h (fun _ h => ?_) (fun _ h => ?_)
        · refine nw_goto (tgt := 44) C dX12_beaten_26 (by decide) ?_
          refine nw_iinc (lv' := [(2, .int (x2 + 1)), (0, .ref (am 112)), (1, .int x1)]) C (x2 + 1) dX12_beaten_44 2 rfl rfl (by decide) rfl ?_
          refine nw_goto (tgt := 4) C dX12_beaten_47 (by decide) ?_
          exact nw_lv (lv' := [(0, .ref (am 112)), (1, .int x1), (2, .int (x2 + 1))]) [1, 2, 0] rfl (ih x1 (x2 + 1) _ h)
        · refine nw_aload_n C dX12_beaten_29 rfl 0 rfl ?_
          refine nw_get (v := .ref (am 98)) C in_X12 0 ml_O rfl 98 (by decide) tw_1671 rfl mf_98 dX12_beaten_30 ?_
          refine nw_iload_n C dX12_beaten_33 rfl 1 rfl ?_
          refine nw_iload_n C dX12_beaten_34 rfl 2 rfl ?_
          refine nw_iast C 69 ml_98 dX12_beaten_35 h ms_98 (fun h => ?_)
          refine nw_aload_n C dX12_beaten_36 rfl 0 rfl ?_
          refine nw_iload_n C dX12_beaten_37 rfl 1 rfl ?_
          refine nm_callVV (q0 := 0) (As := [.int x1]) (rest := []) C h (fun _ _ e => c_M_rounds e) tw_2355 kv_X12_rounds ml_O rfl ⟨Nat.le_of_ble_eq_true rfl, Nat.le_of_ble_eq_true rfl⟩ rfl dX12_beaten_38 rfl (Nat.le_of_ble_eq_true rfl) (fun r38 σ38 h => ?_)
          refine nw_iinc (lv' := [(1, .int (x1 + 1)), (0, .ref (am 112)), (2, .int x2)]) C (x1 + 1) dX12_beaten_41 1 rfl rfl (by decide) rfl ?_
          refine nw_iinc (lv' := [(2, .int (x2 + 1)), (1, .int (x1 + 1)), (0, .ref (am 112))]) C (x2 + 1) dX12_beaten_44 2 rfl rfl (by decide) rfl ?_
          refine nw_goto (tgt := 4) C dX12_beaten_47 (by decide) ?_
          exact nw_lv (lv' := [(0, .ref (am 112)), (1, .int (x1 + 1)), (2, .int (x2 + 1))]) [2, 1, 0] rfl (ih (x1 + 1) (x2 + 1) _ h)
def B_M_beaten_77   (x1 : Int32) (σ : CS) : Option (Int32 × CS) := if x1 ≤ 0 then some (0, σ) else some (1, σ)
set_option maxHeartbeats 4000000 in
set_option maxRecDepth 100000 in
theorem w_M_beaten_77 (C : Cx g p s m args meth c A 3 cX12_beaten yX12_beaten.cls) (hr : meth.sig.returnType = (some .boolean))  {res : Int32 × CS}   (x1 : Int32)  (σ : CS) (h : B_M_beaten_77 x1 σ = some res) : NMI g p l e s m args below meth c A 161 6426 3 am Rr res σ [(1, .int x1)] 77 [] := by
  unfold B_M_beaten_77 at h
  refine nw_iload_n C dX12_beaten_77 rfl 0 rfl ?_
  refine nw_if_le (tgt := 85) C dX12_beaten_78 (by decide) h (fun _ h => ?_) (fun _ h => ?_)
  · refine nw_iconst (v := 0) C dX12_beaten_85 (by decide) ?_
    exact nm_zret C hr (Or.inl rfl) dX12_beaten_86 h
  · refine nw_iconst (v := 1) C dX12_beaten_81 (by decide) ?_
    refine nw_goto (tgt := 86) C dX12_beaten_82 (by decide) ?_
    exact nm_zret C hr (Or.inr rfl) dX12_beaten_86 h
def B_M_beaten_74   (x1 : Int32) (z1 : Int32) (z2 : Int32) (z3 : Int32) (z4 : Int32) (z5 : Int32) (σ : CS) : Option (Int32 × CS) := bnd (g_MG 16 0 z1 z2 z3 z4 z5 σ) (fun _ σ74 => B_M_beaten_77 x1 σ74)
set_option maxHeartbeats 4000000 in
set_option maxRecDepth 100000 in
theorem w_M_beaten_74 (C : Cx g p s m args meth c A 3 cX12_beaten yX12_beaten.cls) (hr : meth.sig.returnType = (some .boolean))  {res : Int32 × CS}   (x1 : Int32) (z1 : Int32) (z2 : Int32) (z3 : Int32) (z4 : Int32) (z5 : Int32)  (σ : CS) (h : B_M_beaten_74 x1 z1 z2 z3 z4 z5 σ = some res) : NMI g p l e s m args below meth c A 161 6426 3 am Rr res σ [(1, .int x1)] 74 [.int z5, .int z4, .int z3, .int z2, .int z1, .ref (am 112)] := by
  unfold B_M_beaten_74 at h
  refine nm_callVV (q0 := 0) (As := [.int z1, .int z2, .int z3, .int z4, .int z5]) (rest := []) C h (fun _ _ e => cg_M_gives 16 e) tw_2360 kv_X12_gives ml_O rfl ⟨Nat.le_of_ble_eq_true rfl, Nat.le_of_ble_eq_true rfl⟩ rfl dX12_beaten_74 rfl (Nat.le_of_ble_eq_true rfl) (fun r74 σ74 h => ?_)
  exact nw_lv (lv' := [(1, .int x1)]) [0] rfl (w_M_beaten_77 C hr x1 _ h)
def B_M_beaten_50   (x1 : Int32) (σ : CS) : Option (Int32 × CS) := if x1 ≤ 0 then B_M_beaten_77 x1 (sF σ 101 (-1)) else if x1 = 2 then B_M_beaten_74 x1 0 0 0 0 1 (sF σ 101 (-1)) else B_M_beaten_74 x1 0 0 0 0 0 (sF σ 101 (-1))
set_option maxHeartbeats 4000000 in
set_option maxRecDepth 100000 in
theorem w_M_beaten_50 (C : Cx g p s m args meth c A 3 cX12_beaten yX12_beaten.cls) (hr : meth.sig.returnType = (some .boolean))  {res : Int32 × CS}   (x1 : Int32)  (σ : CS) (h : B_M_beaten_50 x1 σ = some res) : NMI g p l e s m args below meth c A 161 6426 3 am Rr res σ [(0, .ref (am 112)), (1, .int x1)] 50 [] := by
  unfold B_M_beaten_50 at h
  refine nw_aload_n C dX12_beaten_50 rfl 0 rfl ?_
  refine nw_iconst (v := (-1)) C dX12_beaten_51 (by decide) ?_
  refine nw_put (ty := .int) C in_X12 0 ml_O rfl 101 (by decide) tyX12 tyX12_ok nmX12 tw_1674 rfl rfl (by decide +kernel) rfl rfl (Nat.le_of_ble_eq_true rfl) dX12_beaten_52 ms_101 ?_
  refine nw_iload_n C dX12_beaten_55 rfl 1 rfl ?_
  refine nw_if_le (tgt := 77) C dX12_beaten_56 (by decide) h (fun _ h => ?_) (fun _ h => ?_)
  · exact nw_lv (lv' := [(1, .int x1)]) [1] rfl (w_M_beaten_77 C hr x1 _ h)
  · refine nw_aload_n C dX12_beaten_59 rfl 0 rfl ?_
    refine nw_iconst (v := 0) C dX12_beaten_60 (by decide) ?_
    refine nw_iconst (v := 0) C dX12_beaten_61 (by decide) ?_
    refine nw_iconst (v := 0) C dX12_beaten_62 (by decide) ?_
    refine nw_iconst (v := 0) C dX12_beaten_63 (by decide) ?_
    refine nw_iload_n C dX12_beaten_64 rfl 1 rfl ?_
    refine nw_iconst (v := 2) C dX12_beaten_65 (by decide) ?_
    refine nw_icmp_ne (tgt := 73) C dX12_beaten_66 (by decide) h (fun _ h => ?_) (fun _ h => ?_)
    · refine nw_iconst (v := 1) C dX12_beaten_69 (by decide) ?_
      refine nw_goto (tgt := 74) C dX12_beaten_70 (by decide) ?_
      exact nw_lv (lv' := [(1, .int x1)]) [1] rfl (w_M_beaten_74 C hr x1 0 0 0 0 1 _ h)
    · refine nw_iconst (v := 0) C dX12_beaten_73 (by decide) ?_
      exact nw_lv (lv' := [(1, .int x1)]) [1] rfl (w_M_beaten_74 C hr x1 0 0 0 0 0 _ h)
def f_M_beaten  (σ : CS) : Option (Int32 × CS) := L_M_beaten_4 (B_M_beaten_50) FU 0 0 σ
set_option maxHeartbeats 4000000 in
set_option maxRecDepth 100000 in
theorem c_M_beaten {l : Launch} {g : EG} {am : Nat → Nat} {Rr : va_W} {σ σ' : CS} {r : Int32}   (h : f_M_beaten σ = some (r, σ')) : CmI l g yX12_beaten (.code yX12_beaten cX12_beaten 3 (some .boolean)) 161 6426 am Rr σ [.ref (am 112)] r σ' := by
  refine Ct.of rfl (by decide) (Nat.le_of_ble_eq_true rfl) ?_
  intro p e s m args below meth c A C hr
  show NMI g p l e s m args below meth c A 161 6426 3 am Rr (r, σ') σ [(0, .ref (am 112))] 0 []
  unfold f_M_beaten at h
  refine nw_iconst (v := 0) C dX12_beaten_0 (by decide) ?_
  refine nw_istore_n (lv' := [(1, .int 0), (0, .ref (am 112))]) C dX12_beaten_1 rfl (by decide) rfl ?_
  refine nw_iconst (v := 0) C dX12_beaten_2 (by decide) ?_
  refine nw_istore_n (lv' := [(2, .int 0), (1, .int 0), (0, .ref (am 112))]) C dX12_beaten_3 rfl (by decide) rfl ?_
  exact nw_lv (lv' := [(0, .ref (am 112)), (1, .int 0), (2, .int 0)]) [2, 1, 0] rfl (w_M_beaten_4 C hr (fun x1_ σ_ h_ => w_M_beaten_50 C hr x1_ σ_ h_) FU 0 0 _ h)
theorem dX12_beats_0 : decode cX12_beats 0 = .ok (.aload_n 0, 1) := by decide +kernel
theorem dX12_beats_1 : decode cX12_beats 1 = .ok (.iconst 0, 1) := by decide +kernel
theorem dX12_beats_2 : decode cX12_beats 2 = .ok (.putfield 253, 3) := by decide +kernel
theorem dX12_beats_5 : decode cX12_beats 5 = .ok (.aload_n 0, 1) := by decide +kernel
theorem dX12_beats_6 : decode cX12_beats 6 = .ok (.invokevirtual 636, 3) := by decide +kernel
theorem dX12_beats_9 : decode cX12_beats 9 = .ok (.ifCond .eq 10, 3) := by decide +kernel
theorem dX12_beats_12 : decode cX12_beats 12 = .ok (.aload_n 0, 1) := by decide +kernel
theorem dX12_beats_13 : decode cX12_beats 13 = .ok (.getfield 626, 3) := by decide +kernel
theorem dX12_beats_16 : decode cX12_beats 16 = .ok (.goto 4, 3) := by decide +kernel
theorem dX12_beats_19 : decode cX12_beats 19 = .ok (.iconst 0, 1) := by decide +kernel
theorem dX12_beats_20 : decode cX12_beats 20 = .ok (.ireturn, 1) := by decide +kernel
def f_M_beats  (σ : CS) : Option (Int32 × CS) := bnd (f_M_beaten (sF σ 0 0)) (fun r6 σ6 => if r6 = 0 then some (0, σ6) else some ((σ6.1 101), σ6))
set_option maxHeartbeats 4000000 in
set_option maxRecDepth 100000 in
theorem c_M_beats {l : Launch} {g : EG} {am : Nat → Nat} {Rr : va_W} {σ σ' : CS} {r : Int32}   (h : f_M_beats σ = some (r, σ')) : CmI l g yX12_beats (.code yX12_beats cX12_beats 1 (some .int)) 162 6448 am Rr σ [.ref (am 112)] r σ' := by
  refine Ct.of rfl (by decide) (Nat.le_of_ble_eq_true rfl) ?_
  intro p e s m args below meth c A C hr
  show NMI g p l e s m args below meth c A 162 6448 1 am Rr (r, σ') σ [(0, .ref (am 112))] 0 []
  unfold f_M_beats at h
  refine nw_aload_n C dX12_beats_0 rfl 0 rfl ?_
  refine nw_iconst (v := 0) C dX12_beats_1 (by decide) ?_
  refine nw_put (ty := .int) C in_X12 0 ml_O rfl 0 (by decide) tyX12 tyX12_ok nmX12 tw_1573 rfl rfl (by decide +kernel) rfl rfl (Nat.le_of_ble_eq_true rfl) dX12_beats_2 ms_0 ?_
  refine nw_aload_n C dX12_beats_5 rfl 0 rfl ?_
  refine nm_callVI (q0 := 0) (As := []) (rest := []) C h (fun _ _ e => c_M_beaten e) tw_2351 kv_X12_beaten ml_O rfl ⟨Nat.le_of_ble_eq_true rfl, Nat.le_of_ble_eq_true rfl⟩ rfl dX12_beats_6 rfl (Nat.le_of_ble_eq_true rfl) (fun r6 σ6 h => ?_)
  refine nw_if_eq (tgt := 19) C dX12_beats_9 (by decide) h (fun _ h => ?_) (fun _ h => ?_)
  · refine nw_iconst (v := 0) C dX12_beats_19 (by decide) ?_
    exact nm_iret C hr dX12_beats_20 h
  · refine nw_aload_n C dX12_beats_12 rfl 0 rfl ?_
    refine nw_get (v := .int (σ6.1 101)) C in_X12 0 ml_O rfl 101 (by decide) tw_1674 rfl mf_101 dX12_beats_13 ?_
    refine nw_goto (tgt := 20) C dX12_beats_16 (by decide) ?_
    exact nm_iret C hr dX12_beats_20 h
theorem dX12_beat_0 : decode cX12_beat 0 = .ok (.aload_n 0, 1) := by decide +kernel
theorem dX12_beat_1 : decode cX12_beat 1 = .ok (.iconst 0, 1) := by decide +kernel
theorem dX12_beat_2 : decode cX12_beat 2 = .ok (.putfield 253, 3) := by decide +kernel
theorem dX12_beat_5 : decode cX12_beat 5 = .ok (.aload_n 0, 1) := by decide +kernel
theorem dX12_beat_6 : decode cX12_beat 6 = .ok (.iload_n 1, 1) := by decide +kernel
theorem dX12_beat_7 : decode cX12_beat 7 = .ok (.iconst 0, 1) := by decide +kernel
theorem dX12_beat_8 : decode cX12_beat 8 = .ok (.aload_n 0, 1) := by decide +kernel
theorem dX12_beat_9 : decode cX12_beat 9 = .ok (.getfield 622, 3) := by decide +kernel
theorem dX12_beat_12 : decode cX12_beat 12 = .ok (.iconst 1, 1) := by decide +kernel
theorem dX12_beat_13 : decode cX12_beat 13 = .ok (.isub, 1) := by decide +kernel
theorem dX12_beat_14 : decode cX12_beat 14 = .ok (.invokestatic 257, 3) := by decide +kernel
theorem dX12_beat_17 : decode cX12_beat 17 = .ok (.ifCond .ne 7, 3) := by decide +kernel
theorem dX12_beat_20 : decode cX12_beat 20 = .ok (.iconst 1, 1) := by decide +kernel
theorem dX12_beat_21 : decode cX12_beat 21 = .ok (.goto 4, 3) := by decide +kernel
theorem dX12_beat_24 : decode cX12_beat 24 = .ok (.iconst 0, 1) := by decide +kernel
theorem dX12_beat_25 : decode cX12_beat 25 = .ok (.iconst 1, 1) := by decide +kernel
theorem dX12_beat_26 : decode cX12_beat 26 = .ok (.invokevirtual 265, 3) := by decide +kernel
theorem dX12_beat_29 : decode cX12_beat 29 = .ok (.ifCond .eq 5, 3) := by decide +kernel
theorem dX12_beat_32 : decode cX12_beat 32 = .ok (.iconst 0, 1) := by decide +kernel
theorem dX12_beat_33 : decode cX12_beat 33 = .ok (.ireturn, 1) := by decide +kernel
theorem dX12_beat_34 : decode cX12_beat 34 = .ok (.aload_n 0, 1) := by decide +kernel
theorem dX12_beat_35 : decode cX12_beat 35 = .ok (.invokevirtual 636, 3) := by decide +kernel
theorem dX12_beat_38 : decode cX12_beat 38 = .ok (.ifCond .eq 12, 3) := by decide +kernel
theorem dX12_beat_41 : decode cX12_beat 41 = .ok (.aload_n 0, 1) := by decide +kernel
theorem dX12_beat_42 : decode cX12_beat 42 = .ok (.getfield 226, 3) := by decide +kernel
theorem dX12_beat_45 : decode cX12_beat 45 = .ok (.iload_n 1, 1) := by decide +kernel
theorem dX12_beat_46 : decode cX12_beat 46 = .ok (.iaload, 1) := by decide +kernel
theorem dX12_beat_47 : decode cX12_beat 47 = .ok (.goto 4, 3) := by decide +kernel
theorem dX12_beat_50 : decode cX12_beat 50 = .ok (.iconst (-1), 1) := by decide +kernel
theorem dX12_beat_51 : decode cX12_beat 51 = .ok (.ireturn, 1) := by decide +kernel
def B_M_beat_25   (x1 : Int32) (z1 : Int32) (σ : CS) : Option (Int32 × CS) := bnd (f_M_bad z1 1 σ) (fun r26 σ26 => if r26 = 0 then bnd (f_M_beaten σ26) (fun r35 σ35 => if r35 = 0 then some ((-1), σ35) else gix x1 8 (some ((rd σ35 100 x1), σ35))) else some (0, σ26))
set_option maxHeartbeats 4000000 in
set_option maxRecDepth 100000 in
theorem w_M_beat_25 (C : Cx g p s m args meth c A 2 cX12_beat yX12_beat.cls) (hr : meth.sig.returnType = (some .int))  {res : Int32 × CS}   (x1 : Int32) (z1 : Int32)  (σ : CS) (h : B_M_beat_25 x1 z1 σ = some res) : NMI g p l e s m args below meth c A 162 6448 2 am Rr res σ [(0, .ref (am 112)), (1, .int x1)] 25 [.int z1, .ref (am 112)] := by
  unfold B_M_beat_25 at h
  refine nw_iconst (v := 1) C dX12_beat_25 (by decide) ?_
  refine nm_callVI (q0 := 0) (As := [.int z1, .int 1]) (rest := []) C h (fun _ _ e => c_M_bad e) tw_1924 kv_X12_bad ml_O rfl ⟨Nat.le_of_ble_eq_true rfl, Nat.le_of_ble_eq_true rfl⟩ rfl dX12_beat_26 rfl (Nat.le_of_ble_eq_true rfl) (fun r26 σ26 h => ?_)
  refine nw_if_eq (tgt := 34) C dX12_beat_29 (by decide) h (fun _ h => ?_) (fun _ h => ?_)
  · refine nw_aload_n C dX12_beat_34 rfl 0 rfl ?_
    refine nm_callVI (q0 := 0) (As := []) (rest := []) C h (fun _ _ e => c_M_beaten e) tw_2351 kv_X12_beaten ml_O rfl ⟨Nat.le_of_ble_eq_true rfl, Nat.le_of_ble_eq_true rfl⟩ rfl dX12_beat_35 rfl (Nat.le_of_ble_eq_true rfl) (fun r35 σ35 h => ?_)
    refine nw_if_eq (tgt := 50) C dX12_beat_38 (by decide) h (fun _ h => ?_) (fun _ h => ?_)
    · refine nw_iconst (v := (-1)) C dX12_beat_50 (by decide) ?_
      exact nm_iret C hr dX12_beat_51 h
    · refine nw_aload_n C dX12_beat_41 rfl 0 rfl ?_
      refine nw_get (v := .ref (am 100)) C in_X12 0 ml_O rfl 100 (by decide) tw_1673 rfl mf_100 dX12_beat_42 ?_
      refine nw_iload_n C dX12_beat_45 rfl 1 rfl ?_
      refine nw_iald C 71 ml_100 dX12_beat_46 h (fun h => ?_)
      refine nw_goto (tgt := 51) C dX12_beat_47 (by decide) ?_
      exact nm_iret C hr dX12_beat_51 h
  · refine nw_iconst (v := 0) C dX12_beat_32 (by decide) ?_
    exact nm_iret C hr dX12_beat_33 h
def f_M_beat (p0 : Int32) (σ : CS) : Option (Int32 × CS) := bnd (f_M_in p0 0 ((σ.1 92) - 1) (sF σ 0 0)) (fun r14 σ14 => if r14 = 0 then B_M_beat_25 p0 1 σ14 else B_M_beat_25 p0 0 σ14)
set_option maxHeartbeats 4000000 in
set_option maxRecDepth 100000 in
theorem c_M_beat {l : Launch} {g : EG} {am : Nat → Nat} {Rr : va_W} {σ σ' : CS} {r : Int32} {p0 : Int32}  (h : f_M_beat p0 σ = some (r, σ')) : CmI l g yX12_beat (.code yX12_beat cX12_beat 2 (some .int)) 162 6448 am Rr σ [.ref (am 112), .int p0] r σ' := by
  refine Ct.of rfl (by decide) (Nat.le_of_ble_eq_true rfl) ?_
  intro p e s m args below meth c A C hr
  show NMI g p l e s m args below meth c A 162 6448 2 am Rr (r, σ') σ [(0, .ref (am 112)), (1, .int p0)] 0 []
  unfold f_M_beat at h
  refine nw_aload_n C dX12_beat_0 rfl 0 rfl ?_
  refine nw_iconst (v := 0) C dX12_beat_1 (by decide) ?_
  refine nw_put (ty := .int) C in_X12 0 ml_O rfl 0 (by decide) tyX12 tyX12_ok nmX12 tw_1573 rfl rfl (by decide +kernel) rfl rfl (Nat.le_of_ble_eq_true rfl) dX12_beat_2 ms_0 ?_
  refine nw_aload_n C dX12_beat_5 rfl 0 rfl ?_
  refine nw_iload_n C dX12_beat_6 rfl 1 rfl ?_
  refine nw_iconst (v := 0) C dX12_beat_7 (by decide) ?_
  refine nw_aload_n C dX12_beat_8 rfl 0 rfl ?_
  refine nw_get (v := .int (σ.1 92)) C in_X12 0 ml_O rfl 92 (by decide) tw_1665 rfl rfl dX12_beat_9 ?_
  refine nw_iconst (v := 1) C dX12_beat_12 (by decide) ?_
  refine nw_isub C dX12_beat_13 ?_
  refine nm_callSI  (As := [.int p0, .int 0, .int ((σ.1 92) - 1)]) (rest := [.ref (am 112)]) C h (fun _ _ e => c_M_in e) tw_1918 ks_X12_in ⟨Nat.le_of_ble_eq_true rfl, Nat.le_of_ble_eq_true rfl⟩ rfl dX12_beat_14 rfl (Nat.le_of_ble_eq_true rfl) (fun r14 σ14 h => ?_)
  refine nw_if_ne (tgt := 24) C dX12_beat_17 (by decide) h (fun _ h => ?_) (fun _ h => ?_)
  · refine nw_iconst (v := 1) C dX12_beat_20 (by decide) ?_
    refine nw_goto (tgt := 25) C dX12_beat_21 (by decide) ?_
    exact nw_lv (lv' := [(0, .ref (am 112)), (1, .int p0)]) [0, 1] rfl (w_M_beat_25 C hr p0 1 _ h)
  · refine nw_iconst (v := 0) C dX12_beat_24 (by decide) ?_
    exact nw_lv (lv' := [(0, .ref (am 112)), (1, .int p0)]) [0, 1] rfl (w_M_beat_25 C hr p0 0 _ h)
theorem dX12_isYear_0 : decode cX12_isYear 0 = .ok (.iload_n 0, 1) := by decide +kernel
theorem dX12_isYear_1 : decode cX12_isYear 1 = .ok (.iconst 0, 1) := by decide +kernel
theorem dX12_isYear_2 : decode cX12_isYear 2 = .ok (.sipush 277, 3) := by decide +kernel
theorem dX12_isYear_5 : decode cX12_isYear 5 = .ok (.invokestatic 257, 3) := by decide +kernel
theorem dX12_isYear_8 : decode cX12_isYear 8 = .ok (.ireturn, 1) := by decide +kernel
def f_M_isYear (p0 : Int32) (σ : CS) : Option (Int32 × CS) := bnd (f_M_in p0 0 277 σ) (fun r5 σ5 => grd (r5 = 0 ∨ r5 = 1) (some (r5, σ5)))
set_option maxHeartbeats 4000000 in
set_option maxRecDepth 100000 in
theorem c_M_isYear {l : Launch} {g : EG} {am : Nat → Nat} {Rr : va_W} {σ σ' : CS} {r : Int32} {p0 : Int32}  (h : f_M_isYear p0 σ = some (r, σ')) : CmI l g yX12_isYear (.code yX12_isYear cX12_isYear 1 (some .boolean)) 1 22 am Rr σ [.int p0] r σ' := by
  refine Ct.of rfl (by decide) (Nat.le_of_ble_eq_true rfl) ?_
  intro p e s m args below meth c A C hr
  show NMI g p l e s m args below meth c A 1 22 1 am Rr (r, σ') σ [(0, .int p0)] 0 []
  unfold f_M_isYear at h
  refine nw_iload_n C dX12_isYear_0 rfl 0 rfl ?_
  refine nw_iconst (v := 0) C dX12_isYear_1 (by decide) ?_
  refine nw_sipush (v := 277) C dX12_isYear_2 (by decide) ?_
  refine nm_callSI  (As := [.int p0, .int 0, .int 277]) (rest := []) C h (fun _ _ e => c_M_in e) tw_1918 ks_X12_in ⟨Nat.le_of_ble_eq_true rfl, Nat.le_of_ble_eq_true rfl⟩ rfl dX12_isYear_5 rfl (Nat.le_of_ble_eq_true rfl) (fun r5 σ5 h => ?_)
  exact nm_zretg C hr dX12_isYear_8 h
theorem dX12_wood_0 : decode cX12_wood 0 = .ok (.aload_n 0, 1) := by decide +kernel
theorem dX12_wood_1 : decode cX12_wood 1 = .ok (.iconst 0, 1) := by decide +kernel
theorem dX12_wood_2 : decode cX12_wood 2 = .ok (.putfield 253, 3) := by decide +kernel
theorem dX12_wood_5 : decode cX12_wood 5 = .ok (.aload_n 0, 1) := by decide +kernel
theorem dX12_wood_6 : decode cX12_wood 6 = .ok (.iload_n 1, 1) := by decide +kernel
theorem dX12_wood_7 : decode cX12_wood 7 = .ok (.invokestatic 639, 3) := by decide +kernel
theorem dX12_wood_10 : decode cX12_wood 10 = .ok (.ifCond .eq 25, 3) := by decide +kernel
theorem dX12_wood_13 : decode cX12_wood 13 = .ok (.iload_n 2, 1) := by decide +kernel
theorem dX12_wood_14 : decode cX12_wood 14 = .ok (.iconst 0, 1) := by decide +kernel
theorem dX12_wood_15 : decode cX12_wood 15 = .ok (.ldc_w 256, 3) := by decide +kernel
theorem dX12_wood_18 : decode cX12_wood 18 = .ok (.invokestatic 257, 3) := by decide +kernel
theorem dX12_wood_21 : decode cX12_wood 21 = .ok (.ifCond .eq 14, 3) := by decide +kernel
theorem dX12_wood_24 : decode cX12_wood 24 = .ok (.iload_n 3, 1) := by decide +kernel
theorem dX12_wood_25 : decode cX12_wood 25 = .ok (.iconst 0, 1) := by decide +kernel
theorem dX12_wood_26 : decode cX12_wood 26 = .ok (.ldc_w 256, 3) := by decide +kernel
theorem dX12_wood_29 : decode cX12_wood 29 = .ok (.invokestatic 257, 3) := by decide +kernel
theorem dX12_wood_32 : decode cX12_wood 32 = .ok (.ifCond .ne 7, 3) := by decide +kernel
theorem dX12_wood_35 : decode cX12_wood 35 = .ok (.iconst 1, 1) := by decide +kernel
theorem dX12_wood_36 : decode cX12_wood 36 = .ok (.goto 4, 3) := by decide +kernel
theorem dX12_wood_39 : decode cX12_wood 39 = .ok (.iconst 0, 1) := by decide +kernel
theorem dX12_wood_40 : decode cX12_wood 40 = .ok (.iconst 1, 1) := by decide +kernel
theorem dX12_wood_41 : decode cX12_wood 41 = .ok (.invokevirtual 265, 3) := by decide +kernel
theorem dX12_wood_44 : decode cX12_wood 44 = .ok (.ifCond .eq 5, 3) := by decide +kernel
theorem dX12_wood_47 : decode cX12_wood 47 = .ok (.iconst 0, 1) := by decide +kernel
theorem dX12_wood_48 : decode cX12_wood 48 = .ok (.ireturn, 1) := by decide +kernel
theorem dX12_wood_49 : decode cX12_wood 49 = .ok (.aload_n 0, 1) := by decide +kernel
theorem dX12_wood_50 : decode cX12_wood 50 = .ok (.getfield 642, 3) := by decide +kernel
theorem dX12_wood_53 : decode cX12_wood 53 = .ok (.bipush 6, 2) := by decide +kernel
theorem dX12_wood_55 : decode cX12_wood 55 = .ok (.if_icmp .ne 5, 3) := by decide +kernel
theorem dX12_wood_58 : decode cX12_wood 58 = .ok (.iconst (-1), 1) := by decide +kernel
theorem dX12_wood_59 : decode cX12_wood 59 = .ok (.ireturn, 1) := by decide +kernel
theorem dX12_wood_60 : decode cX12_wood 60 = .ok (.aload_n 0, 1) := by decide +kernel
theorem dX12_wood_61 : decode cX12_wood 61 = .ok (.getfield 229, 3) := by decide +kernel
theorem dX12_wood_64 : decode cX12_wood 64 = .ok (.aload_n 0, 1) := by decide +kernel
theorem dX12_wood_65 : decode cX12_wood 65 = .ok (.getfield 642, 3) := by decide +kernel
theorem dX12_wood_68 : decode cX12_wood 68 = .ok (.iload_n 1, 1) := by decide +kernel
theorem dX12_wood_69 : decode cX12_wood 69 = .ok (.iastore, 1) := by decide +kernel
theorem dX12_wood_70 : decode cX12_wood 70 = .ok (.aload_n 0, 1) := by decide +kernel
theorem dX12_wood_71 : decode cX12_wood 71 = .ok (.getfield 232, 3) := by decide +kernel
theorem dX12_wood_74 : decode cX12_wood 74 = .ok (.aload_n 0, 1) := by decide +kernel
theorem dX12_wood_75 : decode cX12_wood 75 = .ok (.getfield 642, 3) := by decide +kernel
theorem dX12_wood_78 : decode cX12_wood 78 = .ok (.iload_n 2, 1) := by decide +kernel
theorem dX12_wood_79 : decode cX12_wood 79 = .ok (.iastore, 1) := by decide +kernel
theorem dX12_wood_80 : decode cX12_wood 80 = .ok (.aload_n 0, 1) := by decide +kernel
theorem dX12_wood_81 : decode cX12_wood 81 = .ok (.getfield 235, 3) := by decide +kernel
theorem dX12_wood_84 : decode cX12_wood 84 = .ok (.aload_n 0, 1) := by decide +kernel
theorem dX12_wood_85 : decode cX12_wood 85 = .ok (.getfield 642, 3) := by decide +kernel
theorem dX12_wood_88 : decode cX12_wood 88 = .ok (.iload_n 3, 1) := by decide +kernel
theorem dX12_wood_89 : decode cX12_wood 89 = .ok (.iastore, 1) := by decide +kernel
theorem dX12_wood_90 : decode cX12_wood 90 = .ok (.aload_n 0, 1) := by decide +kernel
theorem dX12_wood_91 : decode cX12_wood 91 = .ok (.dup, 1) := by decide +kernel
theorem dX12_wood_92 : decode cX12_wood 92 = .ok (.getfield 642, 3) := by decide +kernel
theorem dX12_wood_95 : decode cX12_wood 95 = .ok (.iconst 1, 1) := by decide +kernel
theorem dX12_wood_96 : decode cX12_wood 96 = .ok (.iadd, 1) := by decide +kernel
theorem dX12_wood_97 : decode cX12_wood 97 = .ok (.putfield 642, 3) := by decide +kernel
theorem dX12_wood_100 : decode cX12_wood 100 = .ok (.aload_n 0, 1) := by decide +kernel
theorem dX12_wood_101 : decode cX12_wood 101 = .ok (.getfield 642, 3) := by decide +kernel
theorem dX12_wood_104 : decode cX12_wood 104 = .ok (.iconst 1, 1) := by decide +kernel
theorem dX12_wood_105 : decode cX12_wood 105 = .ok (.isub, 1) := by decide +kernel
theorem dX12_wood_106 : decode cX12_wood 106 = .ok (.ireturn, 1) := by decide +kernel
def B_M_wood_40   (x1 : Int32) (x2 : Int32) (x3 : Int32) (z1 : Int32) (σ : CS) : Option (Int32 × CS) := bnd (f_M_bad z1 1 σ) (fun r41 σ41 => if r41 = 0 then if (σ41.1 102) = 6 then some ((-1), σ41) else gix (σ41.1 102) 6 (gix (σ41.1 102) 6 (gix (σ41.1 102) 6 (some ((((σ41.1 102) + 1) - 1), (sF (wr (wr (wr σ41 104 (σ41.1 102) x1) 105 (σ41.1 102) x2) 106 (σ41.1 102) x3) 102 ((σ41.1 102) + 1)))))) else some (0, σ41))
set_option maxHeartbeats 4000000 in
set_option maxRecDepth 100000 in
theorem w_M_wood_40 (C : Cx g p s m args meth c A 4 cX12_wood yX12_wood.cls) (hr : meth.sig.returnType = (some .int))  {res : Int32 × CS}   (x1 : Int32) (x2 : Int32) (x3 : Int32) (z1 : Int32)  (σ : CS) (h : B_M_wood_40 x1 x2 x3 z1 σ = some res) : NMI g p l e s m args below meth c A 2 42 4 am Rr res σ [(0, .ref (am 112)), (1, .int x1), (2, .int x2), (3, .int x3)] 40 [.int z1, .ref (am 112)] := by
  unfold B_M_wood_40 at h
  refine nw_iconst (v := 1) C dX12_wood_40 (by decide) ?_
  refine nm_callVI (q0 := 0) (As := [.int z1, .int 1]) (rest := []) C h (fun _ _ e => c_M_bad e) tw_1924 kv_X12_bad ml_O rfl ⟨Nat.le_of_ble_eq_true rfl, Nat.le_of_ble_eq_true rfl⟩ rfl dX12_wood_41 rfl (Nat.le_of_ble_eq_true rfl) (fun r41 σ41 h => ?_)
  refine nw_if_eq (tgt := 49) C dX12_wood_44 (by decide) h (fun _ h => ?_) (fun _ h => ?_)
  · refine nw_aload_n C dX12_wood_49 rfl 0 rfl ?_
    refine nw_get (v := .int (σ41.1 102)) C in_X12 0 ml_O rfl 102 (by decide) tw_1675 rfl mf_102 dX12_wood_50 ?_
    refine nw_bipush (v := 6) C dX12_wood_53 (by decide) ?_
    refine nw_icmp_ne (tgt := 60) C dX12_wood_55 (by decide) h (fun _ h => ?_) (fun _ h => ?_)
    · refine nw_iconst (v := (-1)) C dX12_wood_58 (by decide) ?_
      exact nm_iret C hr dX12_wood_59 h
    · refine nw_aload_n C dX12_wood_60 rfl 0 rfl ?_
      refine nw_get (v := .ref (am 104)) C in_X12 0 ml_O rfl 104 (by decide) tw_1677 rfl mf_104 dX12_wood_61 ?_
      refine nw_aload_n C dX12_wood_64 rfl 0 rfl ?_
      refine nw_get (v := .int (σ41.1 102)) C in_X12 0 ml_O rfl 102 (by decide) tw_1675 rfl mf_102 dX12_wood_65 ?_
      refine nw_iload_n C dX12_wood_68 rfl 1 rfl ?_
      refine nw_iast C 72 ml_104 dX12_wood_69 h ms_104 (fun h => ?_)
      refine nw_aload_n C dX12_wood_70 rfl 0 rfl ?_
      refine nw_get (v := .ref (am 105)) C in_X12 0 ml_O rfl 105 (by decide) tw_1678 rfl mf_105 dX12_wood_71 ?_
      refine nw_aload_n C dX12_wood_74 rfl 0 rfl ?_
      refine nw_get (v := .int (σ41.1 102)) C in_X12 0 ml_O rfl 102 (by decide) tw_1675 rfl rfl dX12_wood_75 ?_
      refine nw_iload_n C dX12_wood_78 rfl 2 rfl ?_
      refine nw_iast C 73 ml_105 dX12_wood_79 h ms_105 (fun h => ?_)
      refine nw_aload_n C dX12_wood_80 rfl 0 rfl ?_
      refine nw_get (v := .ref (am 106)) C in_X12 0 ml_O rfl 106 (by decide) tw_1679 rfl mf_106 dX12_wood_81 ?_
      refine nw_aload_n C dX12_wood_84 rfl 0 rfl ?_
      refine nw_get (v := .int (σ41.1 102)) C in_X12 0 ml_O rfl 102 (by decide) tw_1675 rfl rfl dX12_wood_85 ?_
      refine nw_iload_n C dX12_wood_88 rfl 3 rfl ?_
      refine nw_iast C 74 ml_106 dX12_wood_89 h ms_106 (fun h => ?_)
      refine nw_aload_n C dX12_wood_90 rfl 0 rfl ?_
      refine nw_dup C dX12_wood_91 rfl ?_
      refine nw_get (v := .int (σ41.1 102)) C in_X12 0 ml_O rfl 102 (by decide) tw_1675 rfl rfl dX12_wood_92 ?_
      refine nw_iconst (v := 1) C dX12_wood_95 (by decide) ?_
      refine nw_iadd C dX12_wood_96 ?_
      refine nw_put (ty := .int) C in_X12 0 ml_O rfl 102 (by decide) tyX12 tyX12_ok nmX12 tw_1675 rfl rfl (by decide +kernel) rfl rfl (Nat.le_of_ble_eq_true rfl) dX12_wood_97 ms_102 ?_
      refine nw_aload_n C dX12_wood_100 rfl 0 rfl ?_
      refine nw_get (v := .int ((σ41.1 102) + 1)) C in_X12 0 ml_O rfl 102 (by decide) tw_1675 rfl rfl dX12_wood_101 ?_
      refine nw_iconst (v := 1) C dX12_wood_104 (by decide) ?_
      refine nw_isub C dX12_wood_105 ?_
      exact nm_iret C hr dX12_wood_106 h
  · refine nw_iconst (v := 0) C dX12_wood_47 (by decide) ?_
    exact nm_iret C hr dX12_wood_48 h
def f_M_wood (p0 : Int32) (p1 : Int32) (p2 : Int32) (σ : CS) : Option (Int32 × CS) := bnd (f_M_isYear p0 (sF σ 0 0)) (fun r7 σ7 => if r7 = 0 then B_M_wood_40 p0 p1 p2 1 σ7 else bnd (f_M_in p1 0 100000 σ7) (fun r18 σ18 => if r18 = 0 then B_M_wood_40 p0 p1 p2 1 σ18 else bnd (f_M_in p2 0 100000 σ18) (fun r29 σ29 => if r29 = 0 then B_M_wood_40 p0 p1 p2 1 σ29 else B_M_wood_40 p0 p1 p2 0 σ29)))
set_option maxHeartbeats 4000000 in
set_option maxRecDepth 100000 in
theorem c_M_wood {l : Launch} {g : EG} {am : Nat → Nat} {Rr : va_W} {σ σ' : CS} {r : Int32} {p0 : Int32} {p1 : Int32} {p2 : Int32}  (h : f_M_wood p0 p1 p2 σ = some (r, σ')) : CmI l g yX12_wood (.code yX12_wood cX12_wood 4 (some .int)) 2 42 am Rr σ [.ref (am 112), .int p0, .int p1, .int p2] r σ' := by
  refine Ct.of rfl (by decide) (Nat.le_of_ble_eq_true rfl) ?_
  intro p e s m args below meth c A C hr
  show NMI g p l e s m args below meth c A 2 42 4 am Rr (r, σ') σ [(0, .ref (am 112)), (1, .int p0), (2, .int p1), (3, .int p2)] 0 []
  unfold f_M_wood at h
  refine nw_aload_n C dX12_wood_0 rfl 0 rfl ?_
  refine nw_iconst (v := 0) C dX12_wood_1 (by decide) ?_
  refine nw_put (ty := .int) C in_X12 0 ml_O rfl 0 (by decide) tyX12 tyX12_ok nmX12 tw_1573 rfl rfl (by decide +kernel) rfl rfl (Nat.le_of_ble_eq_true rfl) dX12_wood_2 ms_0 ?_
  refine nw_aload_n C dX12_wood_5 rfl 0 rfl ?_
  refine nw_iload_n C dX12_wood_6 rfl 1 rfl ?_
  refine nm_callSI  (As := [.int p0]) (rest := [.ref (am 112)]) C h (fun _ _ e => c_M_isYear e) tw_2372 ks_X12_isYear ⟨Nat.le_of_ble_eq_true rfl, Nat.le_of_ble_eq_true rfl⟩ rfl dX12_wood_7 rfl (Nat.le_of_ble_eq_true rfl) (fun r7 σ7 h => ?_)
  refine nw_if_eq (tgt := 35) C dX12_wood_10 (by decide) h (fun _ h => ?_) (fun _ h => ?_)
  · refine nw_iconst (v := 1) C dX12_wood_35 (by decide) ?_
    refine nw_goto (tgt := 40) C dX12_wood_36 (by decide) ?_
    exact nw_lv (lv' := [(0, .ref (am 112)), (1, .int p0), (2, .int p1), (3, .int p2)]) [0, 1, 2, 3] rfl (w_M_wood_40 C hr p0 p1 p2 1 _ h)
  · refine nw_iload_n C dX12_wood_13 rfl 2 rfl ?_
    refine nw_iconst (v := 0) C dX12_wood_14 (by decide) ?_
    refine nw_ldcw (v := 100000) C tw_1939 dX12_wood_15 ?_
    refine nm_callSI  (As := [.int p1, .int 0, .int 100000]) (rest := [.ref (am 112)]) C h (fun _ _ e => c_M_in e) tw_1918 ks_X12_in ⟨Nat.le_of_ble_eq_true rfl, Nat.le_of_ble_eq_true rfl⟩ rfl dX12_wood_18 rfl (Nat.le_of_ble_eq_true rfl) (fun r18 σ18 h => ?_)
    refine nw_if_eq (tgt := 35) C dX12_wood_21 (by decide) h (fun _ h => ?_) (fun _ h => ?_)
    · refine nw_iconst (v := 1) C dX12_wood_35 (by decide) ?_
      refine nw_goto (tgt := 40) C dX12_wood_36 (by decide) ?_
      exact nw_lv (lv' := [(0, .ref (am 112)), (1, .int p0), (2, .int p1), (3, .int p2)]) [0, 1, 2, 3] rfl (w_M_wood_40 C hr p0 p1 p2 1 _ h)
    · refine nw_iload_n C dX12_wood_24 rfl 3 rfl ?_
      refine nw_iconst (v := 0) C dX12_wood_25 (by decide) ?_
      refine nw_ldcw (v := 100000) C tw_1939 dX12_wood_26 ?_
      refine nm_callSI  (As := [.int p2, .int 0, .int 100000]) (rest := [.ref (am 112)]) C h (fun _ _ e => c_M_in e) tw_1918 ks_X12_in ⟨Nat.le_of_ble_eq_true rfl, Nat.le_of_ble_eq_true rfl⟩ rfl dX12_wood_29 rfl (Nat.le_of_ble_eq_true rfl) (fun r29 σ29 h => ?_)
      refine nw_if_ne (tgt := 39) C dX12_wood_32 (by decide) h (fun _ h => ?_) (fun _ h => ?_)
      · refine nw_iconst (v := 1) C dX12_wood_35 (by decide) ?_
        refine nw_goto (tgt := 40) C dX12_wood_36 (by decide) ?_
        exact nw_lv (lv' := [(0, .ref (am 112)), (1, .int p0), (2, .int p1), (3, .int p2)]) [0, 1, 2, 3] rfl (w_M_wood_40 C hr p0 p1 p2 1 _ h)
      · refine nw_iconst (v := 0) C dX12_wood_39 (by decide) ?_
        exact nw_lv (lv' := [(0, .ref (am 112)), (1, .int p0), (2, .int p1), (3, .int p2)]) [0, 1, 2, 3] rfl (w_M_wood_40 C hr p0 p1 p2 0 _ h)
theorem dX12_isWood_0 : decode cX12_isWood 0 = .ok (.iload_n 1, 1) := by decide +kernel
theorem dX12_isWood_1 : decode cX12_isWood 1 = .ok (.iconst 0, 1) := by decide +kernel
theorem dX12_isWood_2 : decode cX12_isWood 2 = .ok (.aload_n 0, 1) := by decide +kernel
theorem dX12_isWood_3 : decode cX12_isWood 3 = .ok (.getfield 642, 3) := by decide +kernel
theorem dX12_isWood_6 : decode cX12_isWood 6 = .ok (.iconst 1, 1) := by decide +kernel
theorem dX12_isWood_7 : decode cX12_isWood 7 = .ok (.isub, 1) := by decide +kernel
theorem dX12_isWood_8 : decode cX12_isWood 8 = .ok (.invokestatic 257, 3) := by decide +kernel
theorem dX12_isWood_11 : decode cX12_isWood 11 = .ok (.ireturn, 1) := by decide +kernel
def f_M_isWood (p0 : Int32) (σ : CS) : Option (Int32 × CS) := bnd (f_M_in p0 0 ((σ.1 102) - 1) σ) (fun r8 σ8 => grd (r8 = 0 ∨ r8 = 1) (some (r8, σ8)))
set_option maxHeartbeats 4000000 in
set_option maxRecDepth 100000 in
theorem c_M_isWood {l : Launch} {g : EG} {am : Nat → Nat} {Rr : va_W} {σ σ' : CS} {r : Int32} {p0 : Int32}  (h : f_M_isWood p0 σ = some (r, σ')) : CmI l g yX12_isWood (.code yX12_isWood cX12_isWood 2 (some .boolean)) 1 22 am Rr σ [.ref (am 112), .int p0] r σ' := by
  refine Ct.of rfl (by decide) (Nat.le_of_ble_eq_true rfl) ?_
  intro p e s m args below meth c A C hr
  show NMI g p l e s m args below meth c A 1 22 2 am Rr (r, σ') σ [(0, .ref (am 112)), (1, .int p0)] 0 []
  unfold f_M_isWood at h
  refine nw_iload_n C dX12_isWood_0 rfl 1 rfl ?_
  refine nw_iconst (v := 0) C dX12_isWood_1 (by decide) ?_
  refine nw_aload_n C dX12_isWood_2 rfl 0 rfl ?_
  refine nw_get (v := .int (σ.1 102)) C in_X12 0 ml_O rfl 102 (by decide) tw_1675 rfl mf_102 dX12_isWood_3 ?_
  refine nw_iconst (v := 1) C dX12_isWood_6 (by decide) ?_
  refine nw_isub C dX12_isWood_7 ?_
  refine nm_callSI  (As := [.int p0, .int 0, .int ((σ.1 102) - 1)]) (rest := []) C h (fun _ _ e => c_M_in e) tw_1918 ks_X12_in ⟨Nat.le_of_ble_eq_true rfl, Nat.le_of_ble_eq_true rfl⟩ rfl dX12_isWood_8 rfl (Nat.le_of_ble_eq_true rfl) (fun r8 σ8 h => ?_)
  exact nm_zretg C hr dX12_isWood_11 h
theorem dX12_take_0 : decode cX12_take 0 = .ok (.aload_n 0, 1) := by decide +kernel
theorem dX12_take_1 : decode cX12_take 1 = .ok (.iconst 0, 1) := by decide +kernel
theorem dX12_take_2 : decode cX12_take 2 = .ok (.putfield 253, 3) := by decide +kernel
theorem dX12_take_5 : decode cX12_take 5 = .ok (.aload_n 0, 1) := by decide +kernel
theorem dX12_take_6 : decode cX12_take 6 = .ok (.aload_n 0, 1) := by decide +kernel
theorem dX12_take_7 : decode cX12_take 7 = .ok (.iload_n 1, 1) := by decide +kernel
theorem dX12_take_8 : decode cX12_take 8 = .ok (.invokevirtual 645, 3) := by decide +kernel
theorem dX12_take_11 : decode cX12_take 11 = .ok (.ifCond .ne 7, 3) := by decide +kernel
theorem dX12_take_14 : decode cX12_take 14 = .ok (.iconst 1, 1) := by decide +kernel
theorem dX12_take_15 : decode cX12_take 15 = .ok (.goto 4, 3) := by decide +kernel
theorem dX12_take_18 : decode cX12_take 18 = .ok (.iconst 0, 1) := by decide +kernel
theorem dX12_take_19 : decode cX12_take 19 = .ok (.iconst 1, 1) := by decide +kernel
theorem dX12_take_20 : decode cX12_take 20 = .ok (.invokevirtual 265, 3) := by decide +kernel
theorem dX12_take_23 : decode cX12_take 23 = .ok (.ifCond .ne 53, 3) := by decide +kernel
theorem dX12_take_26 : decode cX12_take 26 = .ok (.aload_n 0, 1) := by decide +kernel
theorem dX12_take_27 : decode cX12_take 27 = .ok (.iload_n 2, 1) := by decide +kernel
theorem dX12_take_28 : decode cX12_take 28 = .ok (.iconst 0, 1) := by decide +kernel
theorem dX12_take_29 : decode cX12_take 29 = .ok (.iconst 1, 1) := by decide +kernel
theorem dX12_take_30 : decode cX12_take 30 = .ok (.invokestatic 257, 3) := by decide +kernel
theorem dX12_take_33 : decode cX12_take 33 = .ok (.ifCond .eq 31, 3) := by decide +kernel
theorem dX12_take_36 : decode cX12_take 36 = .ok (.iload_n 3, 1) := by decide +kernel
theorem dX12_take_37 : decode cX12_take 37 = .ok (.aload_n 0, 1) := by decide +kernel
theorem dX12_take_38 : decode cX12_take 38 = .ok (.getfield 229, 3) := by decide +kernel
theorem dX12_take_41 : decode cX12_take 41 = .ok (.iload_n 1, 1) := by decide +kernel
theorem dX12_take_42 : decode cX12_take 42 = .ok (.iaload, 1) := by decide +kernel
theorem dX12_take_43 : decode cX12_take 43 = .ok (.sipush 277, 3) := by decide +kernel
theorem dX12_take_46 : decode cX12_take 46 = .ok (.invokestatic 257, 3) := by decide +kernel
theorem dX12_take_49 : decode cX12_take 49 = .ok (.ifCond .eq 15, 3) := by decide +kernel
theorem dX12_take_52 : decode cX12_take 52 = .ok (.iload 4, 2) := by decide +kernel
theorem dX12_take_54 : decode cX12_take 54 = .ok (.iconst 1, 1) := by decide +kernel
theorem dX12_take_55 : decode cX12_take 55 = .ok (.ldc_w 256, 3) := by decide +kernel
theorem dX12_take_58 : decode cX12_take 58 = .ok (.invokestatic 257, 3) := by decide +kernel
theorem dX12_take_61 : decode cX12_take 61 = .ok (.ifCond .ne 7, 3) := by decide +kernel
theorem dX12_take_64 : decode cX12_take 64 = .ok (.iconst 1, 1) := by decide +kernel
theorem dX12_take_65 : decode cX12_take 65 = .ok (.goto 4, 3) := by decide +kernel
theorem dX12_take_68 : decode cX12_take 68 = .ok (.iconst 0, 1) := by decide +kernel
theorem dX12_take_69 : decode cX12_take 69 = .ok (.iconst 2, 1) := by decide +kernel
theorem dX12_take_70 : decode cX12_take 70 = .ok (.invokevirtual 265, 3) := by decide +kernel
theorem dX12_take_73 : decode cX12_take 73 = .ok (.ifCond .eq 5, 3) := by decide +kernel
theorem dX12_take_76 : decode cX12_take 76 = .ok (.iconst 0, 1) := by decide +kernel
theorem dX12_take_77 : decode cX12_take 77 = .ok (.ireturn, 1) := by decide +kernel
theorem dX12_take_78 : decode cX12_take 78 = .ok (.aload_n 0, 1) := by decide +kernel
theorem dX12_take_79 : decode cX12_take 79 = .ok (.getfield 648, 3) := by decide +kernel
theorem dX12_take_82 : decode cX12_take 82 = .ok (.bipush 100, 2) := by decide +kernel
theorem dX12_take_84 : decode cX12_take 84 = .ok (.if_icmp .ne 5, 3) := by decide +kernel
theorem dX12_take_87 : decode cX12_take 87 = .ok (.iconst (-1), 1) := by decide +kernel
theorem dX12_take_88 : decode cX12_take 88 = .ok (.ireturn, 1) := by decide +kernel
theorem dX12_take_89 : decode cX12_take 89 = .ok (.aload_n 0, 1) := by decide +kernel
theorem dX12_take_90 : decode cX12_take 90 = .ok (.getfield 238, 3) := by decide +kernel
theorem dX12_take_93 : decode cX12_take 93 = .ok (.aload_n 0, 1) := by decide +kernel
theorem dX12_take_94 : decode cX12_take 94 = .ok (.getfield 648, 3) := by decide +kernel
theorem dX12_take_97 : decode cX12_take 97 = .ok (.iload_n 1, 1) := by decide +kernel
theorem dX12_take_98 : decode cX12_take 98 = .ok (.iastore, 1) := by decide +kernel
theorem dX12_take_99 : decode cX12_take 99 = .ok (.aload_n 0, 1) := by decide +kernel
theorem dX12_take_100 : decode cX12_take 100 = .ok (.getfield 241, 3) := by decide +kernel
theorem dX12_take_103 : decode cX12_take 103 = .ok (.aload_n 0, 1) := by decide +kernel
theorem dX12_take_104 : decode cX12_take 104 = .ok (.getfield 648, 3) := by decide +kernel
theorem dX12_take_107 : decode cX12_take 107 = .ok (.iload_n 2, 1) := by decide +kernel
theorem dX12_take_108 : decode cX12_take 108 = .ok (.iastore, 1) := by decide +kernel
theorem dX12_take_109 : decode cX12_take 109 = .ok (.aload_n 0, 1) := by decide +kernel
theorem dX12_take_110 : decode cX12_take 110 = .ok (.getfield 244, 3) := by decide +kernel
theorem dX12_take_113 : decode cX12_take 113 = .ok (.aload_n 0, 1) := by decide +kernel
theorem dX12_take_114 : decode cX12_take 114 = .ok (.getfield 648, 3) := by decide +kernel
theorem dX12_take_117 : decode cX12_take 117 = .ok (.iload_n 3, 1) := by decide +kernel
theorem dX12_take_118 : decode cX12_take 118 = .ok (.iastore, 1) := by decide +kernel
theorem dX12_take_119 : decode cX12_take 119 = .ok (.aload_n 0, 1) := by decide +kernel
theorem dX12_take_120 : decode cX12_take 120 = .ok (.getfield 247, 3) := by decide +kernel
theorem dX12_take_123 : decode cX12_take 123 = .ok (.aload_n 0, 1) := by decide +kernel
theorem dX12_take_124 : decode cX12_take 124 = .ok (.getfield 648, 3) := by decide +kernel
theorem dX12_take_127 : decode cX12_take 127 = .ok (.iload 4, 2) := by decide +kernel
theorem dX12_take_129 : decode cX12_take 129 = .ok (.iastore, 1) := by decide +kernel
theorem dX12_take_130 : decode cX12_take 130 = .ok (.aload_n 0, 1) := by decide +kernel
theorem dX12_take_131 : decode cX12_take 131 = .ok (.getfield 250, 3) := by decide +kernel
theorem dX12_take_134 : decode cX12_take 134 = .ok (.aload_n 0, 1) := by decide +kernel
theorem dX12_take_135 : decode cX12_take 135 = .ok (.getfield 648, 3) := by decide +kernel
theorem dX12_take_138 : decode cX12_take 138 = .ok (.aload_n 0, 1) := by decide +kernel
theorem dX12_take_139 : decode cX12_take 139 = .ok (.getfield 513, 3) := by decide +kernel
theorem dX12_take_142 : decode cX12_take 142 = .ok (.iastore, 1) := by decide +kernel
theorem dX12_take_143 : decode cX12_take 143 = .ok (.aload_n 0, 1) := by decide +kernel
theorem dX12_take_144 : decode cX12_take 144 = .ok (.dup, 1) := by decide +kernel
theorem dX12_take_145 : decode cX12_take 145 = .ok (.getfield 648, 3) := by decide +kernel
theorem dX12_take_148 : decode cX12_take 148 = .ok (.iconst 1, 1) := by decide +kernel
theorem dX12_take_149 : decode cX12_take 149 = .ok (.iadd, 1) := by decide +kernel
theorem dX12_take_150 : decode cX12_take 150 = .ok (.putfield 648, 3) := by decide +kernel
theorem dX12_take_153 : decode cX12_take 153 = .ok (.aload_n 0, 1) := by decide +kernel
theorem dX12_take_154 : decode cX12_take 154 = .ok (.getfield 648, 3) := by decide +kernel
theorem dX12_take_157 : decode cX12_take 157 = .ok (.ireturn, 1) := by decide +kernel
def B_M_take_69   (x1 : Int32) (x2 : Int32) (x3 : Int32) (x4 : Int32) (z1 : Int32) (σ : CS) : Option (Int32 × CS) := bnd (f_M_bad z1 2 σ) (fun r70 σ70 => if r70 = 0 then if (σ70.1 103) = 100 then some ((-1), σ70) else gix (σ70.1 103) 100 (gix (σ70.1 103) 100 (gix (σ70.1 103) 100 (gix (σ70.1 103) 100 (gix (σ70.1 103) 100 (some (((σ70.1 103) + 1), (sF (wr (wr (wr (wr (wr σ70 107 (σ70.1 103) x1) 108 (σ70.1 103) x2) 109 (σ70.1 103) x3) 110 (σ70.1 103) x4) 111 (σ70.1 103) (σ70.1 1)) 103 ((σ70.1 103) + 1)))))))) else some (0, σ70))
set_option maxHeartbeats 4000000 in
set_option maxRecDepth 100000 in
theorem w_M_take_69 (C : Cx g p s m args meth c A 5 cX12_take yX12_take.cls) (hr : meth.sig.returnType = (some .int))  {res : Int32 × CS}   (x1 : Int32) (x2 : Int32) (x3 : Int32) (x4 : Int32) (z1 : Int32)  (σ : CS) (h : B_M_take_69 x1 x2 x3 x4 z1 σ = some res) : NMI g p l e s m args below meth c A 2 43 5 am Rr res σ [(0, .ref (am 112)), (1, .int x1), (2, .int x2), (3, .int x3), (4, .int x4)] 69 [.int z1, .ref (am 112)] := by
  unfold B_M_take_69 at h
  refine nw_iconst (v := 2) C dX12_take_69 (by decide) ?_
  refine nm_callVI (q0 := 0) (As := [.int z1, .int 2]) (rest := []) C h (fun _ _ e => c_M_bad e) tw_1924 kv_X12_bad ml_O rfl ⟨Nat.le_of_ble_eq_true rfl, Nat.le_of_ble_eq_true rfl⟩ rfl dX12_take_70 rfl (Nat.le_of_ble_eq_true rfl) (fun r70 σ70 h => ?_)
  refine nw_if_eq (tgt := 78) C dX12_take_73 (by decide) h (fun _ h => ?_) (fun _ h => ?_)
  · refine nw_aload_n C dX12_take_78 rfl 0 rfl ?_
    refine nw_get (v := .int (σ70.1 103)) C in_X12 0 ml_O rfl 103 (by decide) tw_1676 rfl mf_103 dX12_take_79 ?_
    refine nw_bipush (v := 100) C dX12_take_82 (by decide) ?_
    refine nw_icmp_ne (tgt := 89) C dX12_take_84 (by decide) h (fun _ h => ?_) (fun _ h => ?_)
    · refine nw_iconst (v := (-1)) C dX12_take_87 (by decide) ?_
      exact nm_iret C hr dX12_take_88 h
    · refine nw_aload_n C dX12_take_89 rfl 0 rfl ?_
      refine nw_get (v := .ref (am 107)) C in_X12 0 ml_O rfl 107 (by decide) tw_1680 rfl mf_107 dX12_take_90 ?_
      refine nw_aload_n C dX12_take_93 rfl 0 rfl ?_
      refine nw_get (v := .int (σ70.1 103)) C in_X12 0 ml_O rfl 103 (by decide) tw_1676 rfl mf_103 dX12_take_94 ?_
      refine nw_iload_n C dX12_take_97 rfl 1 rfl ?_
      refine nw_iast C 75 ml_107 dX12_take_98 h ms_107 (fun h => ?_)
      refine nw_aload_n C dX12_take_99 rfl 0 rfl ?_
      refine nw_get (v := .ref (am 108)) C in_X12 0 ml_O rfl 108 (by decide) tw_1681 rfl mf_108 dX12_take_100 ?_
      refine nw_aload_n C dX12_take_103 rfl 0 rfl ?_
      refine nw_get (v := .int (σ70.1 103)) C in_X12 0 ml_O rfl 103 (by decide) tw_1676 rfl rfl dX12_take_104 ?_
      refine nw_iload_n C dX12_take_107 rfl 2 rfl ?_
      refine nw_iast C 76 ml_108 dX12_take_108 h ms_108 (fun h => ?_)
      refine nw_aload_n C dX12_take_109 rfl 0 rfl ?_
      refine nw_get (v := .ref (am 109)) C in_X12 0 ml_O rfl 109 (by decide) tw_1682 rfl mf_109 dX12_take_110 ?_
      refine nw_aload_n C dX12_take_113 rfl 0 rfl ?_
      refine nw_get (v := .int (σ70.1 103)) C in_X12 0 ml_O rfl 103 (by decide) tw_1676 rfl rfl dX12_take_114 ?_
      refine nw_iload_n C dX12_take_117 rfl 3 rfl ?_
      refine nw_iast C 77 ml_109 dX12_take_118 h ms_109 (fun h => ?_)
      refine nw_aload_n C dX12_take_119 rfl 0 rfl ?_
      refine nw_get (v := .ref (am 110)) C in_X12 0 ml_O rfl 110 (by decide) tw_1683 rfl mf_110 dX12_take_120 ?_
      refine nw_aload_n C dX12_take_123 rfl 0 rfl ?_
      refine nw_get (v := .int (σ70.1 103)) C in_X12 0 ml_O rfl 103 (by decide) tw_1676 rfl rfl dX12_take_124 ?_
      refine nw_iload C dX12_take_127 4 rfl ?_
      refine nw_iast C 78 ml_110 dX12_take_129 h ms_110 (fun h => ?_)
      refine nw_aload_n C dX12_take_130 rfl 0 rfl ?_
      refine nw_get (v := .ref (am 111)) C in_X12 0 ml_O rfl 111 (by decide) tw_1684 rfl mf_111 dX12_take_131 ?_
      refine nw_aload_n C dX12_take_134 rfl 0 rfl ?_
      refine nw_get (v := .int (σ70.1 103)) C in_X12 0 ml_O rfl 103 (by decide) tw_1676 rfl rfl dX12_take_135 ?_
      refine nw_aload_n C dX12_take_138 rfl 0 rfl ?_
      refine nw_get (v := .int (σ70.1 1)) C in_X12 0 ml_O rfl 1 (by decide) tw_1574 rfl rfl dX12_take_139 ?_
      refine nw_iast C 79 ml_111 dX12_take_142 h ms_111 (fun h => ?_)
      refine nw_aload_n C dX12_take_143 rfl 0 rfl ?_
      refine nw_dup C dX12_take_144 rfl ?_
      refine nw_get (v := .int (σ70.1 103)) C in_X12 0 ml_O rfl 103 (by decide) tw_1676 rfl rfl dX12_take_145 ?_
      refine nw_iconst (v := 1) C dX12_take_148 (by decide) ?_
      refine nw_iadd C dX12_take_149 ?_
      refine nw_put (ty := .int) C in_X12 0 ml_O rfl 103 (by decide) tyX12 tyX12_ok nmX12 tw_1676 rfl rfl (by decide +kernel) rfl rfl (Nat.le_of_ble_eq_true rfl) dX12_take_150 ms_103 ?_
      refine nw_aload_n C dX12_take_153 rfl 0 rfl ?_
      refine nw_get (v := .int ((σ70.1 103) + 1)) C in_X12 0 ml_O rfl 103 (by decide) tw_1676 rfl rfl dX12_take_154 ?_
      exact nm_iret C hr dX12_take_157 h
  · refine nw_iconst (v := 0) C dX12_take_76 (by decide) ?_
    exact nm_iret C hr dX12_take_77 h
def B_M_take_19   (x1 : Int32) (x2 : Int32) (x3 : Int32) (x4 : Int32) (z1 : Int32) (σ : CS) : Option (Int32 × CS) := bnd (f_M_bad z1 1 σ) (fun r20 σ20 => if r20 = 0 then bnd (f_M_in x2 0 1 σ20) (fun r30 σ30 => if r30 = 0 then B_M_take_69 x1 x2 x3 x4 1 σ30 else gix x1 6 (bnd (f_M_in x3 (rd σ30 104 x1) 277 σ30) (fun r46 σ46 => if r46 = 0 then B_M_take_69 x1 x2 x3 x4 1 σ46 else bnd (f_M_in x4 1 100000 σ46) (fun r58 σ58 => if r58 = 0 then B_M_take_69 x1 x2 x3 x4 1 σ58 else B_M_take_69 x1 x2 x3 x4 0 σ58)))) else some (0, σ20))
set_option maxHeartbeats 4000000 in
set_option maxRecDepth 100000 in
theorem w_M_take_19 (C : Cx g p s m args meth c A 5 cX12_take yX12_take.cls) (hr : meth.sig.returnType = (some .int))  {res : Int32 × CS}   (x1 : Int32) (x2 : Int32) (x3 : Int32) (x4 : Int32) (z1 : Int32)  (σ : CS) (h : B_M_take_19 x1 x2 x3 x4 z1 σ = some res) : NMI g p l e s m args below meth c A 2 43 5 am Rr res σ [(0, .ref (am 112)), (1, .int x1), (2, .int x2), (3, .int x3), (4, .int x4)] 19 [.int z1, .ref (am 112)] := by
  unfold B_M_take_19 at h
  refine nw_iconst (v := 1) C dX12_take_19 (by decide) ?_
  refine nm_callVI (q0 := 0) (As := [.int z1, .int 1]) (rest := []) C h (fun _ _ e => c_M_bad e) tw_1924 kv_X12_bad ml_O rfl ⟨Nat.le_of_ble_eq_true rfl, Nat.le_of_ble_eq_true rfl⟩ rfl dX12_take_20 rfl (Nat.le_of_ble_eq_true rfl) (fun r20 σ20 h => ?_)
  refine nw_if_ne (tgt := 76) C dX12_take_23 (by decide) h (fun _ h => ?_) (fun _ h => ?_)
  · refine nw_aload_n C dX12_take_26 rfl 0 rfl ?_
    refine nw_iload_n C dX12_take_27 rfl 2 rfl ?_
    refine nw_iconst (v := 0) C dX12_take_28 (by decide) ?_
    refine nw_iconst (v := 1) C dX12_take_29 (by decide) ?_
    refine nm_callSI  (As := [.int x2, .int 0, .int 1]) (rest := [.ref (am 112)]) C h (fun _ _ e => c_M_in e) tw_1918 ks_X12_in ⟨Nat.le_of_ble_eq_true rfl, Nat.le_of_ble_eq_true rfl⟩ rfl dX12_take_30 rfl (Nat.le_of_ble_eq_true rfl) (fun r30 σ30 h => ?_)
    refine nw_if_eq (tgt := 64) C dX12_take_33 (by decide) h (fun _ h => ?_) (fun _ h => ?_)
    · refine nw_iconst (v := 1) C dX12_take_64 (by decide) ?_
      refine nw_goto (tgt := 69) C dX12_take_65 (by decide) ?_
      exact nw_lv (lv' := [(0, .ref (am 112)), (1, .int x1), (2, .int x2), (3, .int x3), (4, .int x4)]) [0, 1, 2, 3, 4] rfl (w_M_take_69 C hr x1 x2 x3 x4 1 _ h)
    · refine nw_iload_n C dX12_take_36 rfl 3 rfl ?_
      refine nw_aload_n C dX12_take_37 rfl 0 rfl ?_
      refine nw_get (v := .ref (am 104)) C in_X12 0 ml_O rfl 104 (by decide) tw_1677 rfl mf_104 dX12_take_38 ?_
      refine nw_iload_n C dX12_take_41 rfl 1 rfl ?_
      refine nw_iald C 72 ml_104 dX12_take_42 h (fun h => ?_)
      refine nw_sipush (v := 277) C dX12_take_43 (by decide) ?_
      refine nm_callSI  (As := [.int x3, .int (rd σ30 104 x1), .int 277]) (rest := [.ref (am 112)]) C h (fun _ _ e => c_M_in e) tw_1918 ks_X12_in ⟨Nat.le_of_ble_eq_true rfl, Nat.le_of_ble_eq_true rfl⟩ rfl dX12_take_46 rfl (Nat.le_of_ble_eq_true rfl) (fun r46 σ46 h => ?_)
      refine nw_if_eq (tgt := 64) C dX12_take_49 (by decide) h (fun _ h => ?_) (fun _ h => ?_)
      · refine nw_iconst (v := 1) C dX12_take_64 (by decide) ?_
        refine nw_goto (tgt := 69) C dX12_take_65 (by decide) ?_
        exact nw_lv (lv' := [(0, .ref (am 112)), (1, .int x1), (2, .int x2), (3, .int x3), (4, .int x4)]) [0, 1, 2, 3, 4] rfl (w_M_take_69 C hr x1 x2 x3 x4 1 _ h)
      · refine nw_iload C dX12_take_52 4 rfl ?_
        refine nw_iconst (v := 1) C dX12_take_54 (by decide) ?_
        refine nw_ldcw (v := 100000) C tw_1939 dX12_take_55 ?_
        refine nm_callSI  (As := [.int x4, .int 1, .int 100000]) (rest := [.ref (am 112)]) C h (fun _ _ e => c_M_in e) tw_1918 ks_X12_in ⟨Nat.le_of_ble_eq_true rfl, Nat.le_of_ble_eq_true rfl⟩ rfl dX12_take_58 rfl (Nat.le_of_ble_eq_true rfl) (fun r58 σ58 h => ?_)
        refine nw_if_ne (tgt := 68) C dX12_take_61 (by decide) h (fun _ h => ?_) (fun _ h => ?_)
        · refine nw_iconst (v := 1) C dX12_take_64 (by decide) ?_
          refine nw_goto (tgt := 69) C dX12_take_65 (by decide) ?_
          exact nw_lv (lv' := [(0, .ref (am 112)), (1, .int x1), (2, .int x2), (3, .int x3), (4, .int x4)]) [0, 1, 2, 3, 4] rfl (w_M_take_69 C hr x1 x2 x3 x4 1 _ h)
        · refine nw_iconst (v := 0) C dX12_take_68 (by decide) ?_
          exact nw_lv (lv' := [(0, .ref (am 112)), (1, .int x1), (2, .int x2), (3, .int x3), (4, .int x4)]) [0, 1, 2, 3, 4] rfl (w_M_take_69 C hr x1 x2 x3 x4 0 _ h)
  · refine nw_iconst (v := 0) C dX12_take_76 (by decide) ?_
    exact nm_iret C hr dX12_take_77 h
def f_M_take (p0 : Int32) (p1 : Int32) (p2 : Int32) (p3 : Int32) (σ : CS) : Option (Int32 × CS) := bnd (f_M_isWood p0 (sF σ 0 0)) (fun r8 σ8 => if r8 = 0 then B_M_take_19 p0 p1 p2 p3 1 σ8 else B_M_take_19 p0 p1 p2 p3 0 σ8)
set_option maxHeartbeats 4000000 in
set_option maxRecDepth 100000 in
theorem c_M_take {l : Launch} {g : EG} {am : Nat → Nat} {Rr : va_W} {σ σ' : CS} {r : Int32} {p0 : Int32} {p1 : Int32} {p2 : Int32} {p3 : Int32}  (h : f_M_take p0 p1 p2 p3 σ = some (r, σ')) : CmI l g yX12_take (.code yX12_take cX12_take 5 (some .int)) 2 43 am Rr σ [.ref (am 112), .int p0, .int p1, .int p2, .int p3] r σ' := by
  refine Ct.of rfl (by decide) (Nat.le_of_ble_eq_true rfl) ?_
  intro p e s m args below meth c A C hr
  show NMI g p l e s m args below meth c A 2 43 5 am Rr (r, σ') σ [(0, .ref (am 112)), (1, .int p0), (2, .int p1), (3, .int p2), (4, .int p3)] 0 []
  unfold f_M_take at h
  refine nw_aload_n C dX12_take_0 rfl 0 rfl ?_
  refine nw_iconst (v := 0) C dX12_take_1 (by decide) ?_
  refine nw_put (ty := .int) C in_X12 0 ml_O rfl 0 (by decide) tyX12 tyX12_ok nmX12 tw_1573 rfl rfl (by decide +kernel) rfl rfl (Nat.le_of_ble_eq_true rfl) dX12_take_2 ms_0 ?_
  refine nw_aload_n C dX12_take_5 rfl 0 rfl ?_
  refine nw_aload_n C dX12_take_6 rfl 0 rfl ?_
  refine nw_iload_n C dX12_take_7 rfl 1 rfl ?_
  refine nm_callVI (q0 := 0) (As := [.int p0]) (rest := [.ref (am 112)]) C h (fun _ _ e => c_M_isWood e) tw_2379 kv_X12_isWood ml_O rfl ⟨Nat.le_of_ble_eq_true rfl, Nat.le_of_ble_eq_true rfl⟩ rfl dX12_take_8 rfl (Nat.le_of_ble_eq_true rfl) (fun r8 σ8 h => ?_)
  refine nw_if_ne (tgt := 18) C dX12_take_11 (by decide) h (fun _ h => ?_) (fun _ h => ?_)
  · refine nw_iconst (v := 1) C dX12_take_14 (by decide) ?_
    refine nw_goto (tgt := 19) C dX12_take_15 (by decide) ?_
    exact nw_lv (lv' := [(0, .ref (am 112)), (1, .int p0), (2, .int p1), (3, .int p2), (4, .int p3)]) [0, 1, 2, 3, 4] rfl (w_M_take_19 C hr p0 p1 p2 p3 1 _ h)
  · refine nw_iconst (v := 0) C dX12_take_18 (by decide) ?_
    exact nw_lv (lv' := [(0, .ref (am 112)), (1, .int p0), (2, .int p1), (3, .int p2), (4, .int p3)]) [0, 1, 2, 3, 4] rfl (w_M_take_19 C hr p0 p1 p2 p3 0 _ h)
theorem dX12_left_0 : decode cX12_left 0 = .ok (.iload_n 1, 1) := by decide +kernel
theorem dX12_left_1 : decode cX12_left 1 = .ok (.istore 6, 2) := by decide +kernel
theorem dX12_left_3 : decode cX12_left 3 = .ok (.iconst 0, 1) := by decide +kernel
theorem dX12_left_4 : decode cX12_left 4 = .ok (.istore 7, 2) := by decide +kernel
theorem dX12_left_6 : decode cX12_left 6 = .ok (.iload 7, 2) := by decide +kernel
theorem dX12_left_8 : decode cX12_left 8 = .ok (.aload_n 0, 1) := by decide +kernel
theorem dX12_left_9 : decode cX12_left 9 = .ok (.getfield 648, 3) := by decide +kernel
theorem dX12_left_12 : decode cX12_left 12 = .ok (.if_icmp .ge 67, 3) := by decide +kernel
theorem dX12_left_15 : decode cX12_left 15 = .ok (.aload_n 0, 1) := by decide +kernel
theorem dX12_left_16 : decode cX12_left 16 = .ok (.getfield 238, 3) := by decide +kernel
theorem dX12_left_19 : decode cX12_left 19 = .ok (.iload 7, 2) := by decide +kernel
theorem dX12_left_21 : decode cX12_left 21 = .ok (.iaload, 1) := by decide +kernel
theorem dX12_left_22 : decode cX12_left 22 = .ok (.iload_n 2, 1) := by decide +kernel
theorem dX12_left_23 : decode cX12_left 23 = .ok (.if_icmp .ne 50, 3) := by decide +kernel
theorem dX12_left_26 : decode cX12_left 26 = .ok (.aload_n 0, 1) := by decide +kernel
theorem dX12_left_27 : decode cX12_left 27 = .ok (.getfield 241, 3) := by decide +kernel
theorem dX12_left_30 : decode cX12_left 30 = .ok (.iload 7, 2) := by decide +kernel
theorem dX12_left_32 : decode cX12_left 32 = .ok (.iaload, 1) := by decide +kernel
theorem dX12_left_33 : decode cX12_left 33 = .ok (.iload_n 3, 1) := by decide +kernel
theorem dX12_left_34 : decode cX12_left 34 = .ok (.if_icmp .ne 39, 3) := by decide +kernel
theorem dX12_left_37 : decode cX12_left 37 = .ok (.aload_n 0, 1) := by decide +kernel
theorem dX12_left_38 : decode cX12_left 38 = .ok (.getfield 244, 3) := by decide +kernel
theorem dX12_left_41 : decode cX12_left 41 = .ok (.iload 7, 2) := by decide +kernel
theorem dX12_left_43 : decode cX12_left 43 = .ok (.iaload, 1) := by decide +kernel
theorem dX12_left_44 : decode cX12_left 44 = .ok (.iload 4, 2) := by decide +kernel
theorem dX12_left_46 : decode cX12_left 46 = .ok (.if_icmp .ne 27, 3) := by decide +kernel
theorem dX12_left_49 : decode cX12_left 49 = .ok (.aload_n 0, 1) := by decide +kernel
theorem dX12_left_50 : decode cX12_left 50 = .ok (.getfield 250, 3) := by decide +kernel
theorem dX12_left_53 : decode cX12_left 53 = .ok (.iload 7, 2) := by decide +kernel
theorem dX12_left_55 : decode cX12_left 55 = .ok (.iaload, 1) := by decide +kernel
theorem dX12_left_56 : decode cX12_left 56 = .ok (.iload 5, 2) := by decide +kernel
theorem dX12_left_58 : decode cX12_left 58 = .ok (.if_icmp .gt 15, 3) := by decide +kernel
theorem dX12_left_61 : decode cX12_left 61 = .ok (.iload 6, 2) := by decide +kernel
theorem dX12_left_63 : decode cX12_left 63 = .ok (.aload_n 0, 1) := by decide +kernel
theorem dX12_left_64 : decode cX12_left 64 = .ok (.getfield 247, 3) := by decide +kernel
theorem dX12_left_67 : decode cX12_left 67 = .ok (.iload 7, 2) := by decide +kernel
theorem dX12_left_69 : decode cX12_left 69 = .ok (.iaload, 1) := by decide +kernel
theorem dX12_left_70 : decode cX12_left 70 = .ok (.isub, 1) := by decide +kernel
theorem dX12_left_71 : decode cX12_left 71 = .ok (.istore 6, 2) := by decide +kernel
theorem dX12_left_73 : decode cX12_left 73 = .ok (.iinc 7 1, 3) := by decide +kernel
theorem dX12_left_76 : decode cX12_left 76 = .ok (.goto (-70), 3) := by decide +kernel
theorem dX12_left_79 : decode cX12_left 79 = .ok (.iload 6, 2) := by decide +kernel
theorem dX12_left_81 : decode cX12_left 81 = .ok (.ifCond .ge 7, 3) := by decide +kernel
theorem dX12_left_84 : decode cX12_left 84 = .ok (.iconst 0, 1) := by decide +kernel
theorem dX12_left_85 : decode cX12_left 85 = .ok (.goto 5, 3) := by decide +kernel
theorem dX12_left_88 : decode cX12_left 88 = .ok (.iload 6, 2) := by decide +kernel
theorem dX12_left_90 : decode cX12_left 90 = .ok (.ireturn, 1) := by decide +kernel
def L_M_left_6 (k79 : Int32 → CS → Option (Int32 × CS)) (x2 : Int32) (x3 : Int32) (x4 : Int32) (x5 : Int32) : Nat → Int32 → Int32 → CS → Option (Int32 × CS)
  | 0, _, _, _ => none
  | n + 1, x6, x7, σ => if (σ.1 103) ≤ x7 then k79 x6 σ else gix x7 100 (if (rd σ 107 x7) = x2 then gix x7 100 (if (rd σ 108 x7) = x3 then gix x7 100 (if (rd σ 109 x7) = x4 then gix x7 100 (if x5 < (rd σ 111 x7) then (L_M_left_6 k79 x2 x3 x4 x5 n) x6 (x7 + 1) σ else gix x7 100 ((L_M_left_6 k79 x2 x3 x4 x5 n) (x6 - (rd σ 110 x7)) (x7 + 1) σ)) else (L_M_left_6 k79 x2 x3 x4 x5 n) x6 (x7 + 1) σ) else (L_M_left_6 k79 x2 x3 x4 x5 n) x6 (x7 + 1) σ) else (L_M_left_6 k79 x2 x3 x4 x5 n) x6 (x7 + 1) σ)
set_option maxHeartbeats 4000000 in
set_option maxRecDepth 100000 in
theorem w_M_left_6 (C : Cx g p s m args meth c A 8 cX12_left yX12_left.cls) (hr : meth.sig.returnType = (some .int))  {res : Int32 × CS}  (x2 : Int32) (x3 : Int32) (x4 : Int32) (x5 : Int32) {k79 : Int32 → CS → Option (Int32 × CS)} (hk79 : ∀ (x6 : Int32) (σ : CS), k79 x6 σ = some res → NMI g p l e s m args below meth c A 0 0 8 am Rr res σ [(6, .int x6)] 79 []) : ∀ (n : Nat) (x6 : Int32) (x7 : Int32) (σ : CS), L_M_left_6 k79 x2 x3 x4 x5 n x6 x7 σ = some res → NMI g p l e s m args below meth c A 0 0 8 am Rr res σ [(0, .ref (am 112)), (2, .int x2), (3, .int x3), (4, .int x4), (5, .int x5), (6, .int x6), (7, .int x7)] 6 [] := by
  intro n
  induction n with
  | zero =>
    intro x6 x7 σ h
    exact absurd (show (none : Option (Int32 × CS)) = some res from h) (by intro h9; cases h9)
  | succ n ih =>
    intro x6 x7 σ h
    rw [L_M_left_6] at h
    refine nw_iload C dX12_left_6 6 rfl ?_
    refine nw_aload_n C dX12_left_8 rfl 0 rfl ?_
    refine nw_get (v := .int (σ.1 103)) C in_X12 0 ml_O rfl 103 (by decide) tw_1676 rfl mf_103 dX12_left_9 ?_
    refine nw_icmp_ge (tgt := 79) C dX12_left_12 (by decide) h (fun _ h => ?_) (fun _ h => ?_)
    · exact nw_lv (lv' := [(6, .int x6)]) [5] rfl (hk79 x6 _ h)
    · refine nw_aload_n C dX12_left_15 rfl 0 rfl ?_
      refine nw_get (v := .ref (am 107)) C in_X12 0 ml_O rfl 107 (by decide) tw_1680 rfl mf_107 dX12_left_16 ?_
      refine nw_iload C dX12_left_19 6 rfl ?_
      refine nw_iald C 75 ml_107 dX12_left_21 h (fun h => ?_)
      refine nw_iload_n C dX12_left_22 rfl 1 rfl ?_
      refine nw_icmp_ne (tgt := 73) C dX12_left_23 (by decide) h (fun _ h => ?_) (fun _ h => ?_)
      · refine nw_aload_n C dX12_left_26 rfl 0 rfl ?_
        refine nw_get (v := .ref (am 108)) C in_X12 0 ml_O rfl 108 (by decide) tw_1681 rfl mf_108 dX12_left_27 ?_
        refine nw_iload C dX12_left_30 6 rfl ?_
        refine nw_iald C 76 ml_108 dX12_left_32 h (fun h => ?_)
        refine nw_iload_n C dX12_left_33 rfl 2 rfl ?_
        refine nw_icmp_ne (tgt := 73) C dX12_left_34 (by decide) h (fun _ h => ?_) (fun _ h => ?_)
        · refine nw_aload_n C dX12_left_37 rfl 0 rfl ?_
          refine nw_get (v := .ref (am 109)) C in_X12 0 ml_O rfl 109 (by decide) tw_1682 rfl mf_109 dX12_left_38 ?_
          refine nw_iload C dX12_left_41 6 rfl ?_
          refine nw_iald C 77 ml_109 dX12_left_43 h (fun h => ?_)
          refine nw_iload C dX12_left_44 3 rfl ?_
          refine nw_icmp_ne (tgt := 73) C dX12_left_46 (by decide) h (fun _ h => ?_) (fun _ h => ?_)
          · refine nw_aload_n C dX12_left_49 rfl 0 rfl ?_
            refine nw_get (v := .ref (am 111)) C in_X12 0 ml_O rfl 111 (by decide) tw_1684 rfl mf_111 dX12_left_50 ?_
            refine nw_iload C dX12_left_53 6 rfl ?_
            refine nw_iald C 79 ml_111 dX12_left_55 h (fun h => ?_)
            refine nw_iload C dX12_left_56 4 rfl ?_
            refine nw_icmp_gt (tgt := 73) C dX12_left_58 (by decide) h (fun _ h => ?_) (fun _ h => ?_)
            · refine nw_iinc (lv' := [(7, .int (x7 + 1)), (0, .ref (am 112)), (2, .int x2), (3, .int x3), (4, .int x4), (5, .int x5), (6, .int x6)]) C (x7 + 1) dX12_left_73 6 rfl rfl (by decide) rfl ?_
              refine nw_goto (tgt := 6) C dX12_left_76 (by decide) ?_
              exact nw_lv (lv' := [(0, .ref (am 112)), (2, .int x2), (3, .int x3), (4, .int x4), (5, .int x5), (6, .int x6), (7, .int (x7 + 1))]) [1, 2, 3, 4, 5, 6, 0] rfl (ih x6 (x7 + 1) _ h)
            · refine nw_iload C dX12_left_61 5 rfl ?_
              refine nw_aload_n C dX12_left_63 rfl 0 rfl ?_
              refine nw_get (v := .ref (am 110)) C in_X12 0 ml_O rfl 110 (by decide) tw_1683 rfl mf_110 dX12_left_64 ?_
              refine nw_iload C dX12_left_67 6 rfl ?_
              refine nw_iald C 78 ml_110 dX12_left_69 h (fun h => ?_)
              refine nw_isub C dX12_left_70 ?_
              refine nw_istore (lv' := [(6, .int (x6 - (rd σ 110 x7))), (0, .ref (am 112)), (2, .int x2), (3, .int x3), (4, .int x4), (5, .int x5), (7, .int x7)]) C dX12_left_71 (by decide) rfl ?_
              refine nw_iinc (lv' := [(7, .int (x7 + 1)), (6, .int (x6 - (rd σ 110 x7))), (0, .ref (am 112)), (2, .int x2), (3, .int x3), (4, .int x4), (5, .int x5)]) C (x7 + 1) dX12_left_73 6 rfl rfl (by decide) rfl ?_
              refine nw_goto (tgt := 6) C dX12_left_76 (by decide) ?_
              exact nw_lv (lv' := [(0, .ref (am 112)), (2, .int x2), (3, .int x3), (4, .int x4), (5, .int x5), (6, .int (x6 - (rd σ 110 x7))), (7, .int (x7 + 1))]) [2, 3, 4, 5, 6, 1, 0] rfl (ih (x6 - (rd σ 110 x7)) (x7 + 1) _ h)
          · refine nw_iinc (lv' := [(7, .int (x7 + 1)), (0, .ref (am 112)), (2, .int x2), (3, .int x3), (4, .int x4), (5, .int x5), (6, .int x6)]) C (x7 + 1) dX12_left_73 6 rfl rfl (by decide) rfl ?_
            refine nw_goto (tgt := 6) C dX12_left_76 (by decide) ?_
            exact nw_lv (lv' := [(0, .ref (am 112)), (2, .int x2), (3, .int x3), (4, .int x4), (5, .int x5), (6, .int x6), (7, .int (x7 + 1))]) [1, 2, 3, 4, 5, 6, 0] rfl (ih x6 (x7 + 1) _ h)
        · refine nw_iinc (lv' := [(7, .int (x7 + 1)), (0, .ref (am 112)), (2, .int x2), (3, .int x3), (4, .int x4), (5, .int x5), (6, .int x6)]) C (x7 + 1) dX12_left_73 6 rfl rfl (by decide) rfl ?_
          refine nw_goto (tgt := 6) C dX12_left_76 (by decide) ?_
          exact nw_lv (lv' := [(0, .ref (am 112)), (2, .int x2), (3, .int x3), (4, .int x4), (5, .int x5), (6, .int x6), (7, .int (x7 + 1))]) [1, 2, 3, 4, 5, 6, 0] rfl (ih x6 (x7 + 1) _ h)
      · refine nw_iinc (lv' := [(7, .int (x7 + 1)), (0, .ref (am 112)), (2, .int x2), (3, .int x3), (4, .int x4), (5, .int x5), (6, .int x6)]) C (x7 + 1) dX12_left_73 6 rfl rfl (by decide) rfl ?_
        refine nw_goto (tgt := 6) C dX12_left_76 (by decide) ?_
        exact nw_lv (lv' := [(0, .ref (am 112)), (2, .int x2), (3, .int x3), (4, .int x4), (5, .int x5), (6, .int x6), (7, .int (x7 + 1))]) [1, 2, 3, 4, 5, 6, 0] rfl (ih x6 (x7 + 1) _ h)
def B_M_left_79   (x6 : Int32) (σ : CS) : Option (Int32 × CS) := if 0 ≤ x6 then some (x6, σ) else some (0, σ)
set_option maxHeartbeats 4000000 in
set_option maxRecDepth 100000 in
theorem w_M_left_79 (C : Cx g p s m args meth c A 8 cX12_left yX12_left.cls) (hr : meth.sig.returnType = (some .int))  {res : Int32 × CS}   (x6 : Int32)  (σ : CS) (h : B_M_left_79 x6 σ = some res) : NMI g p l e s m args below meth c A 0 0 8 am Rr res σ [(6, .int x6)] 79 [] := by
  unfold B_M_left_79 at h
  refine nw_iload C dX12_left_79 0 rfl ?_
  refine nw_if_ge (tgt := 88) C dX12_left_81 (by decide) h (fun _ h => ?_) (fun _ h => ?_)
  · refine nw_iload C dX12_left_88 0 rfl ?_
    exact nm_iret C hr dX12_left_90 h
  · refine nw_iconst (v := 0) C dX12_left_84 (by decide) ?_
    refine nw_goto (tgt := 90) C dX12_left_85 (by decide) ?_
    exact nm_iret C hr dX12_left_90 h
def f_M_left (p0 : Int32) (p1 : Int32) (p2 : Int32) (p3 : Int32) (p4 : Int32) (σ : CS) : Option (Int32 × CS) := L_M_left_6 (B_M_left_79) p1 p2 p3 p4 FU p0 0 σ
set_option maxHeartbeats 4000000 in
set_option maxRecDepth 100000 in
theorem c_M_left {l : Launch} {g : EG} {am : Nat → Nat} {Rr : va_W} {σ σ' : CS} {r : Int32} {p0 : Int32} {p1 : Int32} {p2 : Int32} {p3 : Int32} {p4 : Int32}  (h : f_M_left p0 p1 p2 p3 p4 σ = some (r, σ')) : CmI l g yX12_left (.code yX12_left cX12_left 8 (some .int)) 0 0 am Rr σ [.ref (am 112), .int p0, .int p1, .int p2, .int p3, .int p4] r σ' := by
  refine Ct.of rfl (by decide) (Nat.le_of_ble_eq_true rfl) ?_
  intro p e s m args below meth c A C hr
  show NMI g p l e s m args below meth c A 0 0 8 am Rr (r, σ') σ [(0, .ref (am 112)), (1, .int p0), (2, .int p1), (3, .int p2), (4, .int p3), (5, .int p4)] 0 []
  unfold f_M_left at h
  refine nw_iload_n C dX12_left_0 rfl 1 rfl ?_
  refine nw_istore (lv' := [(6, .int p0), (0, .ref (am 112)), (1, .int p0), (2, .int p1), (3, .int p2), (4, .int p3), (5, .int p4)]) C dX12_left_1 (by decide) rfl ?_
  refine nw_iconst (v := 0) C dX12_left_3 (by decide) ?_
  refine nw_istore (lv' := [(7, .int 0), (6, .int p0), (0, .ref (am 112)), (1, .int p0), (2, .int p1), (3, .int p2), (4, .int p3), (5, .int p4)]) C dX12_left_4 (by decide) rfl ?_
  exact nw_lv (lv' := [(0, .ref (am 112)), (2, .int p1), (3, .int p2), (4, .int p3), (5, .int p4), (6, .int p0), (7, .int 0)]) [2, 4, 5, 6, 7, 1, 0] rfl (w_M_left_6 C hr p1 p2 p3 p4 (fun x6_ σ_ h_ => w_M_left_79 C hr x6_ σ_ h_) FU p0 0 _ h)
theorem dX12_most_0 : decode cX12_most 0 = .ok (.iload_n 0, 1) := by decide +kernel
theorem dX12_most_1 : decode cX12_most 1 = .ok (.ldc_w 503, 3) := by decide +kernel
theorem dX12_most_4 : decode cX12_most 4 = .ok (.if_icmp .le 9, 3) := by decide +kernel
theorem dX12_most_7 : decode cX12_most 7 = .ok (.ldc_w 503, 3) := by decide +kernel
theorem dX12_most_10 : decode cX12_most 10 = .ok (.goto 4, 3) := by decide +kernel
theorem dX12_most_13 : decode cX12_most 13 = .ok (.iload_n 0, 1) := by decide +kernel
theorem dX12_most_14 : decode cX12_most 14 = .ok (.ireturn, 1) := by decide +kernel
def f_M_most (p0 : Int32) (σ : CS) : Option (Int32 × CS) := if p0 ≤ 1000000 then some (p0, σ) else some (1000000, σ)
set_option maxHeartbeats 4000000 in
set_option maxRecDepth 100000 in
theorem c_M_most {l : Launch} {g : EG} {am : Nat → Nat} {Rr : va_W} {σ σ' : CS} {r : Int32} {p0 : Int32}  (h : f_M_most p0 σ = some (r, σ')) : CmI l g yX12_most (.code yX12_most cX12_most 1 (some .int)) 0 0 am Rr σ [.int p0] r σ' := by
  refine Ct.of rfl (by decide) (Nat.le_of_ble_eq_true rfl) ?_
  intro p e s m args below meth c A C hr
  show NMI g p l e s m args below meth c A 0 0 1 am Rr (r, σ') σ [(0, .int p0)] 0 []
  unfold f_M_most at h
  refine nw_iload_n C dX12_most_0 rfl 0 rfl ?_
  refine nw_ldcw (v := 1000000) C tw_2167 dX12_most_1 ?_
  refine nw_icmp_le (tgt := 13) C dX12_most_4 (by decide) h (fun _ h => ?_) (fun _ h => ?_)
  · refine nw_iload_n C dX12_most_13 rfl 0 rfl ?_
    exact nm_iret C hr dX12_most_14 h
  · refine nw_ldcw (v := 1000000) C tw_2167 dX12_most_7 ?_
    refine nw_goto (tgt := 14) C dX12_most_10 (by decide) ?_
    exact nm_iret C hr dX12_most_14 h
theorem dX12_stock_0 : decode cX12_stock 0 = .ok (.aload_n 0, 1) := by decide +kernel
theorem dX12_stock_1 : decode cX12_stock 1 = .ok (.iconst 0, 1) := by decide +kernel
theorem dX12_stock_2 : decode cX12_stock 2 = .ok (.putfield 253, 3) := by decide +kernel
theorem dX12_stock_5 : decode cX12_stock 5 = .ok (.aload_n 0, 1) := by decide +kernel
theorem dX12_stock_6 : decode cX12_stock 6 = .ok (.aload_n 0, 1) := by decide +kernel
theorem dX12_stock_7 : decode cX12_stock 7 = .ok (.iload_n 1, 1) := by decide +kernel
theorem dX12_stock_8 : decode cX12_stock 8 = .ok (.invokevirtual 645, 3) := by decide +kernel
theorem dX12_stock_11 : decode cX12_stock 11 = .ok (.ifCond .ne 7, 3) := by decide +kernel
theorem dX12_stock_14 : decode cX12_stock 14 = .ok (.iconst 1, 1) := by decide +kernel
theorem dX12_stock_15 : decode cX12_stock 15 = .ok (.goto 4, 3) := by decide +kernel
theorem dX12_stock_18 : decode cX12_stock 18 = .ok (.iconst 0, 1) := by decide +kernel
theorem dX12_stock_19 : decode cX12_stock 19 = .ok (.iconst 1, 1) := by decide +kernel
theorem dX12_stock_20 : decode cX12_stock 20 = .ok (.invokevirtual 265, 3) := by decide +kernel
theorem dX12_stock_23 : decode cX12_stock 23 = .ok (.ifCond .ne 40, 3) := by decide +kernel
theorem dX12_stock_26 : decode cX12_stock 26 = .ok (.aload_n 0, 1) := by decide +kernel
theorem dX12_stock_27 : decode cX12_stock 27 = .ok (.iload_n 2, 1) := by decide +kernel
theorem dX12_stock_28 : decode cX12_stock 28 = .ok (.iconst 0, 1) := by decide +kernel
theorem dX12_stock_29 : decode cX12_stock 29 = .ok (.iconst 1, 1) := by decide +kernel
theorem dX12_stock_30 : decode cX12_stock 30 = .ok (.invokestatic 257, 3) := by decide +kernel
theorem dX12_stock_33 : decode cX12_stock 33 = .ok (.ifCond .eq 18, 3) := by decide +kernel
theorem dX12_stock_36 : decode cX12_stock 36 = .ok (.iload_n 3, 1) := by decide +kernel
theorem dX12_stock_37 : decode cX12_stock 37 = .ok (.invokestatic 639, 3) := by decide +kernel
theorem dX12_stock_40 : decode cX12_stock 40 = .ok (.ifCond .eq 11, 3) := by decide +kernel
theorem dX12_stock_43 : decode cX12_stock 43 = .ok (.iload 4, 2) := by decide +kernel
theorem dX12_stock_45 : decode cX12_stock 45 = .ok (.invokestatic 298, 3) := by decide +kernel
theorem dX12_stock_48 : decode cX12_stock 48 = .ok (.ifCond .ne 7, 3) := by decide +kernel
theorem dX12_stock_51 : decode cX12_stock 51 = .ok (.iconst 1, 1) := by decide +kernel
theorem dX12_stock_52 : decode cX12_stock 52 = .ok (.goto 4, 3) := by decide +kernel
theorem dX12_stock_55 : decode cX12_stock 55 = .ok (.iconst 0, 1) := by decide +kernel
theorem dX12_stock_56 : decode cX12_stock 56 = .ok (.iconst 2, 1) := by decide +kernel
theorem dX12_stock_57 : decode cX12_stock 57 = .ok (.invokevirtual 265, 3) := by decide +kernel
theorem dX12_stock_60 : decode cX12_stock 60 = .ok (.ifCond .eq 5, 3) := by decide +kernel
theorem dX12_stock_63 : decode cX12_stock 63 = .ok (.iconst 0, 1) := by decide +kernel
theorem dX12_stock_64 : decode cX12_stock 64 = .ok (.ireturn, 1) := by decide +kernel
theorem dX12_stock_65 : decode cX12_stock 65 = .ok (.iload_n 3, 1) := by decide +kernel
theorem dX12_stock_66 : decode cX12_stock 66 = .ok (.aload_n 0, 1) := by decide +kernel
theorem dX12_stock_67 : decode cX12_stock 67 = .ok (.getfield 229, 3) := by decide +kernel
theorem dX12_stock_70 : decode cX12_stock 70 = .ok (.iload_n 1, 1) := by decide +kernel
theorem dX12_stock_71 : decode cX12_stock 71 = .ok (.iaload, 1) := by decide +kernel
theorem dX12_stock_72 : decode cX12_stock 72 = .ok (.if_icmp .ge 5, 3) := by decide +kernel
theorem dX12_stock_75 : decode cX12_stock 75 = .ok (.iconst (-1), 1) := by decide +kernel
theorem dX12_stock_76 : decode cX12_stock 76 = .ok (.ireturn, 1) := by decide +kernel
theorem dX12_stock_77 : decode cX12_stock 77 = .ok (.aload_n 0, 1) := by decide +kernel
theorem dX12_stock_78 : decode cX12_stock 78 = .ok (.getfield 232, 3) := by decide +kernel
theorem dX12_stock_81 : decode cX12_stock 81 = .ok (.iload_n 1, 1) := by decide +kernel
theorem dX12_stock_82 : decode cX12_stock 82 = .ok (.iaload, 1) := by decide +kernel
theorem dX12_stock_83 : decode cX12_stock 83 = .ok (.istore 5, 2) := by decide +kernel
theorem dX12_stock_85 : decode cX12_stock 85 = .ok (.aload_n 0, 1) := by decide +kernel
theorem dX12_stock_86 : decode cX12_stock 86 = .ok (.getfield 235, 3) := by decide +kernel
theorem dX12_stock_89 : decode cX12_stock 89 = .ok (.iload_n 1, 1) := by decide +kernel
theorem dX12_stock_90 : decode cX12_stock 90 = .ok (.iaload, 1) := by decide +kernel
theorem dX12_stock_91 : decode cX12_stock 91 = .ok (.istore 6, 2) := by decide +kernel
theorem dX12_stock_93 : decode cX12_stock 93 = .ok (.aload_n 0, 1) := by decide +kernel
theorem dX12_stock_94 : decode cX12_stock 94 = .ok (.getfield 229, 3) := by decide +kernel
theorem dX12_stock_97 : decode cX12_stock 97 = .ok (.iload_n 1, 1) := by decide +kernel
theorem dX12_stock_98 : decode cX12_stock 98 = .ok (.iaload, 1) := by decide +kernel
theorem dX12_stock_99 : decode cX12_stock 99 = .ok (.istore 7, 2) := by decide +kernel
theorem dX12_stock_101 : decode cX12_stock 101 = .ok (.iload 7, 2) := by decide +kernel
theorem dX12_stock_103 : decode cX12_stock 103 = .ok (.iload_n 3, 1) := by decide +kernel
theorem dX12_stock_104 : decode cX12_stock 104 = .ok (.if_icmp .gt 88, 3) := by decide +kernel
theorem dX12_stock_107 : decode cX12_stock 107 = .ok (.aload_n 0, 1) := by decide +kernel
theorem dX12_stock_108 : decode cX12_stock 108 = .ok (.iload 5, 2) := by decide +kernel
theorem dX12_stock_110 : decode cX12_stock 110 = .ok (.iload_n 1, 1) := by decide +kernel
theorem dX12_stock_111 : decode cX12_stock 111 = .ok (.iconst 0, 1) := by decide +kernel
theorem dX12_stock_112 : decode cX12_stock 112 = .ok (.iload 7, 2) := by decide +kernel
theorem dX12_stock_114 : decode cX12_stock 114 = .ok (.iload 4, 2) := by decide +kernel
theorem dX12_stock_116 : decode cX12_stock 116 = .ok (.invokevirtual 651, 3) := by decide +kernel
theorem dX12_stock_119 : decode cX12_stock 119 = .ok (.istore 5, 2) := by decide +kernel
theorem dX12_stock_121 : decode cX12_stock 121 = .ok (.iload 5, 2) := by decide +kernel
theorem dX12_stock_123 : decode cX12_stock 123 = .ok (.iload 5, 2) := by decide +kernel
theorem dX12_stock_125 : decode cX12_stock 125 = .ok (.bipush 50, 2) := by decide +kernel
theorem dX12_stock_127 : decode cX12_stock 127 = .ok (.idiv, 1) := by decide +kernel
theorem dX12_stock_128 : decode cX12_stock 128 = .ok (.iadd, 1) := by decide +kernel
theorem dX12_stock_129 : decode cX12_stock 129 = .ok (.invokestatic 655, 3) := by decide +kernel
theorem dX12_stock_132 : decode cX12_stock 132 = .ok (.istore 5, 2) := by decide +kernel
theorem dX12_stock_134 : decode cX12_stock 134 = .ok (.aload_n 0, 1) := by decide +kernel
theorem dX12_stock_135 : decode cX12_stock 135 = .ok (.iload 6, 2) := by decide +kernel
theorem dX12_stock_137 : decode cX12_stock 137 = .ok (.iload_n 1, 1) := by decide +kernel
theorem dX12_stock_138 : decode cX12_stock 138 = .ok (.iconst 1, 1) := by decide +kernel
theorem dX12_stock_139 : decode cX12_stock 139 = .ok (.iload 7, 2) := by decide +kernel
theorem dX12_stock_141 : decode cX12_stock 141 = .ok (.iload 4, 2) := by decide +kernel
theorem dX12_stock_143 : decode cX12_stock 143 = .ok (.invokevirtual 651, 3) := by decide +kernel
theorem dX12_stock_146 : decode cX12_stock 146 = .ok (.istore 6, 2) := by decide +kernel
theorem dX12_stock_148 : decode cX12_stock 148 = .ok (.iload 6, 2) := by decide +kernel
theorem dX12_stock_150 : decode cX12_stock 150 = .ok (.iload 6, 2) := by decide +kernel
theorem dX12_stock_152 : decode cX12_stock 152 = .ok (.iconst 3, 1) := by decide +kernel
theorem dX12_stock_153 : decode cX12_stock 153 = .ok (.idiv, 1) := by decide +kernel
theorem dX12_stock_154 : decode cX12_stock 154 = .ok (.iadd, 1) := by decide +kernel
theorem dX12_stock_155 : decode cX12_stock 155 = .ok (.invokestatic 655, 3) := by decide +kernel
theorem dX12_stock_158 : decode cX12_stock 158 = .ok (.istore 6, 2) := by decide +kernel
theorem dX12_stock_160 : decode cX12_stock 160 = .ok (.iload 6, 2) := by decide +kernel
theorem dX12_stock_162 : decode cX12_stock 162 = .ok (.iload 5, 2) := by decide +kernel
theorem dX12_stock_164 : decode cX12_stock 164 = .ok (.bipush 10, 2) := by decide +kernel
theorem dX12_stock_166 : decode cX12_stock 166 = .ok (.idiv, 1) := by decide +kernel
theorem dX12_stock_167 : decode cX12_stock 167 = .ok (.iconst 5, 1) := by decide +kernel
theorem dX12_stock_168 : decode cX12_stock 168 = .ok (.iadd, 1) := by decide +kernel
theorem dX12_stock_169 : decode cX12_stock 169 = .ok (.if_icmp .le 13, 3) := by decide +kernel
theorem dX12_stock_172 : decode cX12_stock 172 = .ok (.iload 5, 2) := by decide +kernel
theorem dX12_stock_174 : decode cX12_stock 174 = .ok (.bipush 10, 2) := by decide +kernel
theorem dX12_stock_176 : decode cX12_stock 176 = .ok (.idiv, 1) := by decide +kernel
theorem dX12_stock_177 : decode cX12_stock 177 = .ok (.iconst 5, 1) := by decide +kernel
theorem dX12_stock_178 : decode cX12_stock 178 = .ok (.iadd, 1) := by decide +kernel
theorem dX12_stock_179 : decode cX12_stock 179 = .ok (.goto 5, 3) := by decide +kernel
theorem dX12_stock_182 : decode cX12_stock 182 = .ok (.iload 6, 2) := by decide +kernel
theorem dX12_stock_184 : decode cX12_stock 184 = .ok (.istore 6, 2) := by decide +kernel
theorem dX12_stock_186 : decode cX12_stock 186 = .ok (.iinc 7 1, 3) := by decide +kernel
theorem dX12_stock_189 : decode cX12_stock 189 = .ok (.goto (-88), 3) := by decide +kernel
theorem dX12_stock_192 : decode cX12_stock 192 = .ok (.iload_n 2, 1) := by decide +kernel
theorem dX12_stock_193 : decode cX12_stock 193 = .ok (.ifCond .ne 8, 3) := by decide +kernel
theorem dX12_stock_196 : decode cX12_stock 196 = .ok (.iload 5, 2) := by decide +kernel
theorem dX12_stock_198 : decode cX12_stock 198 = .ok (.goto 5, 3) := by decide +kernel
theorem dX12_stock_201 : decode cX12_stock 201 = .ok (.iload 6, 2) := by decide +kernel
theorem dX12_stock_203 : decode cX12_stock 203 = .ok (.ireturn, 1) := by decide +kernel
def L_M_stock_101 (k192 : Int32 → Int32 → Int32 → CS → Option (Int32 × CS)) (x1 : Int32) (x2 : Int32) (x3 : Int32) (x4 : Int32) : Nat → Int32 → Int32 → Int32 → CS → Option (Int32 × CS)
  | 0, _, _, _, _ => none
  | n + 1, x5, x6, x7, σ => if x3 < x7 then k192 x2 x5 x6 σ else bnd (f_M_left x5 x1 0 x7 x4 σ) (fun r116 σ116 => bnd (f_M_most (r116 + (r116 / 50)) σ116) (fun r129 σ129 => bnd (f_M_left x6 x1 1 x7 x4 σ129) (fun r143 σ143 => bnd (f_M_most (r143 + (r143 / 3)) σ143) (fun r155 σ155 => if r155 ≤ ((r129 / 10) + 5) then (L_M_stock_101 k192 x1 x2 x3 x4 n) r129 r155 (x7 + 1) σ155 else (L_M_stock_101 k192 x1 x2 x3 x4 n) r129 ((r129 / 10) + 5) (x7 + 1) σ155))))
set_option maxHeartbeats 4000000 in
set_option maxRecDepth 100000 in
theorem w_M_stock_101 (C : Cx g p s m args meth c A 8 cX12_stock yX12_stock.cls) (hr : meth.sig.returnType = (some .int))  {res : Int32 × CS}  (x1 : Int32) (x2 : Int32) (x3 : Int32) (x4 : Int32) {k192 : Int32 → Int32 → Int32 → CS → Option (Int32 × CS)} (hk192 : ∀ (x2 : Int32) (x5 : Int32) (x6 : Int32) (σ : CS), k192 x2 x5 x6 σ = some res → NMI g p l e s m args below meth c A 2 43 8 am Rr res σ [(2, .int x2), (5, .int x5), (6, .int x6)] 192 []) : ∀ (n : Nat) (x5 : Int32) (x6 : Int32) (x7 : Int32) (σ : CS), L_M_stock_101 k192 x1 x2 x3 x4 n x5 x6 x7 σ = some res → NMI g p l e s m args below meth c A 2 43 8 am Rr res σ [(0, .ref (am 112)), (1, .int x1), (2, .int x2), (3, .int x3), (4, .int x4), (5, .int x5), (6, .int x6), (7, .int x7)] 101 [] := by
  intro n
  induction n with
  | zero =>
    intro x5 x6 x7 σ h
    exact absurd (show (none : Option (Int32 × CS)) = some res from h) (by intro h9; cases h9)
  | succ n ih =>
    intro x5 x6 x7 σ h
    rw [L_M_stock_101] at h
    refine nw_iload C dX12_stock_101 7 rfl ?_
    refine nw_iload_n C dX12_stock_103 rfl 3 rfl ?_
    refine nw_icmp_gt (tgt := 192) C dX12_stock_104 (by decide) h (fun _ h => ?_) (fun _ h => ?_)
    · exact nw_lv (lv' := [(2, .int x2), (5, .int x5), (6, .int x6)]) [2, 5, 6] rfl (hk192 x2 x5 x6 _ h)
    · refine nw_aload_n C dX12_stock_107 rfl 0 rfl ?_
      refine nw_iload C dX12_stock_108 5 rfl ?_
      refine nw_iload_n C dX12_stock_110 rfl 1 rfl ?_
      refine nw_iconst (v := 0) C dX12_stock_111 (by decide) ?_
      refine nw_iload C dX12_stock_112 7 rfl ?_
      refine nw_iload C dX12_stock_114 4 rfl ?_
      refine nm_callVI (q0 := 0) (As := [.int x5, .int x1, .int 0, .int x7, .int x4]) (rest := []) C h (fun _ _ e => c_M_left e) tw_2387 kv_X12_left ml_O rfl ⟨Nat.le_of_ble_eq_true rfl, Nat.le_of_ble_eq_true rfl⟩ rfl dX12_stock_116 rfl (Nat.le_of_ble_eq_true rfl) (fun r116 σ116 h => ?_)
      refine nw_istore (lv' := [(5, .int r116), (0, .ref (am 112)), (1, .int x1), (2, .int x2), (3, .int x3), (4, .int x4), (6, .int x6), (7, .int x7)]) C dX12_stock_119 (by decide) rfl ?_
      refine nw_iload C dX12_stock_121 0 rfl ?_
      refine nw_iload C dX12_stock_123 0 rfl ?_
      refine nw_bipush (v := 50) C dX12_stock_125 (by decide) ?_
      refine nw_idivk C dX12_stock_127 (by decide) ?_
      refine nw_iadd C dX12_stock_128 ?_
      refine nm_callSI  (As := [.int (r116 + (r116 / 50))]) (rest := []) C h (fun _ _ e => c_M_most e) tw_2391 ks_X12_most ⟨Nat.le_of_ble_eq_true rfl, Nat.le_of_ble_eq_true rfl⟩ rfl dX12_stock_129 rfl (Nat.le_of_ble_eq_true rfl) (fun r129 σ129 h => ?_)
      refine nw_istore (lv' := [(5, .int r129), (0, .ref (am 112)), (1, .int x1), (2, .int x2), (3, .int x3), (4, .int x4), (6, .int x6), (7, .int x7)]) C dX12_stock_132 (by decide) rfl ?_
      refine nw_aload_n C dX12_stock_134 rfl 1 rfl ?_
      refine nw_iload C dX12_stock_135 6 rfl ?_
      refine nw_iload_n C dX12_stock_137 rfl 2 rfl ?_
      refine nw_iconst (v := 1) C dX12_stock_138 (by decide) ?_
      refine nw_iload C dX12_stock_139 7 rfl ?_
      refine nw_iload C dX12_stock_141 5 rfl ?_
      refine nm_callVI (q0 := 0) (As := [.int x6, .int x1, .int 1, .int x7, .int x4]) (rest := []) C h (fun _ _ e => c_M_left e) tw_2387 kv_X12_left ml_O rfl ⟨Nat.le_of_ble_eq_true rfl, Nat.le_of_ble_eq_true rfl⟩ rfl dX12_stock_143 rfl (Nat.le_of_ble_eq_true rfl) (fun r143 σ143 h => ?_)
      refine nw_istore (lv' := [(6, .int r143), (5, .int r129), (0, .ref (am 112)), (1, .int x1), (2, .int x2), (3, .int x3), (4, .int x4), (7, .int x7)]) C dX12_stock_146 (by decide) rfl ?_
      refine nw_iload C dX12_stock_148 0 rfl ?_
      refine nw_iload C dX12_stock_150 0 rfl ?_
      refine nw_iconst (v := 3) C dX12_stock_152 (by decide) ?_
      refine nw_idivk C dX12_stock_153 (by decide) ?_
      refine nw_iadd C dX12_stock_154 ?_
      refine nm_callSI  (As := [.int (r143 + (r143 / 3))]) (rest := []) C h (fun _ _ e => c_M_most e) tw_2391 ks_X12_most ⟨Nat.le_of_ble_eq_true rfl, Nat.le_of_ble_eq_true rfl⟩ rfl dX12_stock_155 rfl (Nat.le_of_ble_eq_true rfl) (fun r155 σ155 h => ?_)
      refine nw_istore (lv' := [(6, .int r155), (5, .int r129), (0, .ref (am 112)), (1, .int x1), (2, .int x2), (3, .int x3), (4, .int x4), (7, .int x7)]) C dX12_stock_158 (by decide) rfl ?_
      refine nw_iload C dX12_stock_160 0 rfl ?_
      refine nw_iload C dX12_stock_162 1 rfl ?_
      refine nw_bipush (v := 10) C dX12_stock_164 (by decide) ?_
      refine nw_idivk C dX12_stock_166 (by decide) ?_
      refine nw_iconst (v := 5) C dX12_stock_167 (by decide) ?_
      refine nw_iadd C dX12_stock_168 ?_
      refine nw_icmp_le (tgt := 182) C dX12_stock_169 (by decide) h (fun _ h => ?_) (fun _ h => ?_)
      · refine nw_iload C dX12_stock_182 0 rfl ?_
        refine nw_istore (lv' := [(6, .int r155), (5, .int r129), (0, .ref (am 112)), (1, .int x1), (2, .int x2), (3, .int x3), (4, .int x4), (7, .int x7)]) C dX12_stock_184 (by decide) rfl ?_
        refine nw_iinc (lv' := [(7, .int (x7 + 1)), (6, .int r155), (5, .int r129), (0, .ref (am 112)), (1, .int x1), (2, .int x2), (3, .int x3), (4, .int x4)]) C (x7 + 1) dX12_stock_186 7 rfl rfl (by decide) rfl ?_
        refine nw_goto (tgt := 101) C dX12_stock_189 (by decide) ?_
        exact nw_lv (lv' := [(0, .ref (am 112)), (1, .int x1), (2, .int x2), (3, .int x3), (4, .int x4), (5, .int r129), (6, .int r155), (7, .int (x7 + 1))]) [3, 4, 5, 6, 7, 2, 1, 0] rfl (ih r129 r155 (x7 + 1) _ h)
      · refine nw_iload C dX12_stock_172 1 rfl ?_
        refine nw_bipush (v := 10) C dX12_stock_174 (by decide) ?_
        refine nw_idivk C dX12_stock_176 (by decide) ?_
        refine nw_iconst (v := 5) C dX12_stock_177 (by decide) ?_
        refine nw_iadd C dX12_stock_178 ?_
        refine nw_goto (tgt := 184) C dX12_stock_179 (by decide) ?_
        refine nw_istore (lv' := [(6, .int ((r129 / 10) + 5)), (5, .int r129), (0, .ref (am 112)), (1, .int x1), (2, .int x2), (3, .int x3), (4, .int x4), (7, .int x7)]) C dX12_stock_184 (by decide) rfl ?_
        refine nw_iinc (lv' := [(7, .int (x7 + 1)), (6, .int ((r129 / 10) + 5)), (5, .int r129), (0, .ref (am 112)), (1, .int x1), (2, .int x2), (3, .int x3), (4, .int x4)]) C (x7 + 1) dX12_stock_186 7 rfl rfl (by decide) rfl ?_
        refine nw_goto (tgt := 101) C dX12_stock_189 (by decide) ?_
        exact nw_lv (lv' := [(0, .ref (am 112)), (1, .int x1), (2, .int x2), (3, .int x3), (4, .int x4), (5, .int r129), (6, .int ((r129 / 10) + 5)), (7, .int (x7 + 1))]) [3, 4, 5, 6, 7, 2, 1, 0] rfl (ih r129 ((r129 / 10) + 5) (x7 + 1) _ h)
def B_M_stock_192   (x2 : Int32) (x5 : Int32) (x6 : Int32) (σ : CS) : Option (Int32 × CS) := if x2 = 0 then some (x5, σ) else some (x6, σ)
set_option maxHeartbeats 4000000 in
set_option maxRecDepth 100000 in
theorem w_M_stock_192 (C : Cx g p s m args meth c A 8 cX12_stock yX12_stock.cls) (hr : meth.sig.returnType = (some .int))  {res : Int32 × CS}   (x2 : Int32) (x5 : Int32) (x6 : Int32)  (σ : CS) (h : B_M_stock_192 x2 x5 x6 σ = some res) : NMI g p l e s m args below meth c A 2 43 8 am Rr res σ [(2, .int x2), (5, .int x5), (6, .int x6)] 192 [] := by
  unfold B_M_stock_192 at h
  refine nw_iload_n C dX12_stock_192 rfl 0 rfl ?_
  refine nw_if_ne (tgt := 201) C dX12_stock_193 (by decide) h (fun _ h => ?_) (fun _ h => ?_)
  · refine nw_iload C dX12_stock_196 1 rfl ?_
    refine nw_goto (tgt := 203) C dX12_stock_198 (by decide) ?_
    exact nm_iret C hr dX12_stock_203 h
  · refine nw_iload C dX12_stock_201 2 rfl ?_
    exact nm_iret C hr dX12_stock_203 h
def B_M_stock_56   (x1 : Int32) (x2 : Int32) (x3 : Int32) (x4 : Int32) (z1 : Int32) (σ : CS) : Option (Int32 × CS) := bnd (f_M_bad z1 2 σ) (fun r57 σ57 => if r57 = 0 then gix x1 6 (if (rd σ57 104 x1) ≤ x3 then gix x1 6 (gix x1 6 (gix x1 6 (L_M_stock_101 (B_M_stock_192) x1 x2 x3 x4 FU (rd σ57 105 x1) (rd σ57 106 x1) (rd σ57 104 x1) σ57))) else some ((-1), σ57)) else some (0, σ57))
set_option maxHeartbeats 4000000 in
set_option maxRecDepth 100000 in
theorem w_M_stock_56 (C : Cx g p s m args meth c A 8 cX12_stock yX12_stock.cls) (hr : meth.sig.returnType = (some .int))  {res : Int32 × CS}   (x1 : Int32) (x2 : Int32) (x3 : Int32) (x4 : Int32) (z1 : Int32)  (σ : CS) (h : B_M_stock_56 x1 x2 x3 x4 z1 σ = some res) : NMI g p l e s m args below meth c A 2 43 8 am Rr res σ [(0, .ref (am 112)), (1, .int x1), (2, .int x2), (3, .int x3), (4, .int x4)] 56 [.int z1, .ref (am 112)] := by
  unfold B_M_stock_56 at h
  refine nw_iconst (v := 2) C dX12_stock_56 (by decide) ?_
  refine nm_callVI (q0 := 0) (As := [.int z1, .int 2]) (rest := []) C h (fun _ _ e => c_M_bad e) tw_1924 kv_X12_bad ml_O rfl ⟨Nat.le_of_ble_eq_true rfl, Nat.le_of_ble_eq_true rfl⟩ rfl dX12_stock_57 rfl (Nat.le_of_ble_eq_true rfl) (fun r57 σ57 h => ?_)
  refine nw_if_eq (tgt := 65) C dX12_stock_60 (by decide) h (fun _ h => ?_) (fun _ h => ?_)
  · refine nw_iload_n C dX12_stock_65 rfl 3 rfl ?_
    refine nw_aload_n C dX12_stock_66 rfl 0 rfl ?_
    refine nw_get (v := .ref (am 104)) C in_X12 0 ml_O rfl 104 (by decide) tw_1677 rfl mf_104 dX12_stock_67 ?_
    refine nw_iload_n C dX12_stock_70 rfl 1 rfl ?_
    refine nw_iald C 72 ml_104 dX12_stock_71 h (fun h => ?_)
    refine nw_icmp_ge (tgt := 77) C dX12_stock_72 (by decide) h (fun _ h => ?_) (fun _ h => ?_)
    · refine nw_aload_n C dX12_stock_77 rfl 0 rfl ?_
      refine nw_get (v := .ref (am 105)) C in_X12 0 ml_O rfl 105 (by decide) tw_1678 rfl mf_105 dX12_stock_78 ?_
      refine nw_iload_n C dX12_stock_81 rfl 1 rfl ?_
      refine nw_iald C 73 ml_105 dX12_stock_82 h (fun h => ?_)
      refine nw_istore (lv' := [(5, .int (rd σ57 105 x1)), (0, .ref (am 112)), (1, .int x1), (2, .int x2), (3, .int x3), (4, .int x4)]) C dX12_stock_83 (by decide) rfl ?_
      refine nw_aload_n C dX12_stock_85 rfl 1 rfl ?_
      refine nw_get (v := .ref (am 106)) C in_X12 0 ml_O rfl 106 (by decide) tw_1679 rfl mf_106 dX12_stock_86 ?_
      refine nw_iload_n C dX12_stock_89 rfl 2 rfl ?_
      refine nw_iald C 74 ml_106 dX12_stock_90 h (fun h => ?_)
      refine nw_istore (lv' := [(6, .int (rd σ57 106 x1)), (5, .int (rd σ57 105 x1)), (0, .ref (am 112)), (1, .int x1), (2, .int x2), (3, .int x3), (4, .int x4)]) C dX12_stock_91 (by decide) rfl ?_
      refine nw_aload_n C dX12_stock_93 rfl 2 rfl ?_
      refine nw_get (v := .ref (am 104)) C in_X12 0 ml_O rfl 104 (by decide) tw_1677 rfl mf_104 dX12_stock_94 ?_
      refine nw_iload_n C dX12_stock_97 rfl 3 rfl ?_
      refine nw_iald C 72 ml_104 dX12_stock_98 h (fun h => ?_)
      refine nw_istore (lv' := [(7, .int (rd σ57 104 x1)), (6, .int (rd σ57 106 x1)), (5, .int (rd σ57 105 x1)), (0, .ref (am 112)), (1, .int x1), (2, .int x2), (3, .int x3), (4, .int x4)]) C dX12_stock_99 (by decide) rfl ?_
      exact nw_lv (lv' := [(0, .ref (am 112)), (1, .int x1), (2, .int x2), (3, .int x3), (4, .int x4), (5, .int (rd σ57 105 x1)), (6, .int (rd σ57 106 x1)), (7, .int (rd σ57 104 x1))]) [3, 4, 5, 6, 7, 2, 1, 0] rfl (w_M_stock_101 C hr x1 x2 x3 x4 (fun x2_ x5_ x6_ σ_ h_ => w_M_stock_192 C hr x2_ x5_ x6_ σ_ h_) FU (rd σ57 105 x1) (rd σ57 106 x1) (rd σ57 104 x1) _ h)
    · refine nw_iconst (v := (-1)) C dX12_stock_75 (by decide) ?_
      exact nm_iret C hr dX12_stock_76 h
  · refine nw_iconst (v := 0) C dX12_stock_63 (by decide) ?_
    exact nm_iret C hr dX12_stock_64 h
def B_M_stock_19   (x1 : Int32) (x2 : Int32) (x3 : Int32) (x4 : Int32) (z1 : Int32) (σ : CS) : Option (Int32 × CS) := bnd (f_M_bad z1 1 σ) (fun r20 σ20 => if r20 = 0 then bnd (f_M_in x2 0 1 σ20) (fun r30 σ30 => if r30 = 0 then B_M_stock_56 x1 x2 x3 x4 1 σ30 else bnd (f_M_isYear x3 σ30) (fun r37 σ37 => if r37 = 0 then B_M_stock_56 x1 x2 x3 x4 1 σ37 else bnd (f_M_isDay x4 σ37) (fun r45 σ45 => if r45 = 0 then B_M_stock_56 x1 x2 x3 x4 1 σ45 else B_M_stock_56 x1 x2 x3 x4 0 σ45))) else some (0, σ20))
set_option maxHeartbeats 4000000 in
set_option maxRecDepth 100000 in
theorem w_M_stock_19 (C : Cx g p s m args meth c A 8 cX12_stock yX12_stock.cls) (hr : meth.sig.returnType = (some .int))  {res : Int32 × CS}   (x1 : Int32) (x2 : Int32) (x3 : Int32) (x4 : Int32) (z1 : Int32)  (σ : CS) (h : B_M_stock_19 x1 x2 x3 x4 z1 σ = some res) : NMI g p l e s m args below meth c A 2 43 8 am Rr res σ [(0, .ref (am 112)), (1, .int x1), (2, .int x2), (3, .int x3), (4, .int x4)] 19 [.int z1, .ref (am 112)] := by
  unfold B_M_stock_19 at h
  refine nw_iconst (v := 1) C dX12_stock_19 (by decide) ?_
  refine nm_callVI (q0 := 0) (As := [.int z1, .int 1]) (rest := []) C h (fun _ _ e => c_M_bad e) tw_1924 kv_X12_bad ml_O rfl ⟨Nat.le_of_ble_eq_true rfl, Nat.le_of_ble_eq_true rfl⟩ rfl dX12_stock_20 rfl (Nat.le_of_ble_eq_true rfl) (fun r20 σ20 h => ?_)
  refine nw_if_ne (tgt := 63) C dX12_stock_23 (by decide) h (fun _ h => ?_) (fun _ h => ?_)
  · refine nw_aload_n C dX12_stock_26 rfl 0 rfl ?_
    refine nw_iload_n C dX12_stock_27 rfl 2 rfl ?_
    refine nw_iconst (v := 0) C dX12_stock_28 (by decide) ?_
    refine nw_iconst (v := 1) C dX12_stock_29 (by decide) ?_
    refine nm_callSI  (As := [.int x2, .int 0, .int 1]) (rest := [.ref (am 112)]) C h (fun _ _ e => c_M_in e) tw_1918 ks_X12_in ⟨Nat.le_of_ble_eq_true rfl, Nat.le_of_ble_eq_true rfl⟩ rfl dX12_stock_30 rfl (Nat.le_of_ble_eq_true rfl) (fun r30 σ30 h => ?_)
    refine nw_if_eq (tgt := 51) C dX12_stock_33 (by decide) h (fun _ h => ?_) (fun _ h => ?_)
    · refine nw_iconst (v := 1) C dX12_stock_51 (by decide) ?_
      refine nw_goto (tgt := 56) C dX12_stock_52 (by decide) ?_
      exact nw_lv (lv' := [(0, .ref (am 112)), (1, .int x1), (2, .int x2), (3, .int x3), (4, .int x4)]) [0, 1, 2, 3, 4] rfl (w_M_stock_56 C hr x1 x2 x3 x4 1 _ h)
    · refine nw_iload_n C dX12_stock_36 rfl 3 rfl ?_
      refine nm_callSI  (As := [.int x3]) (rest := [.ref (am 112)]) C h (fun _ _ e => c_M_isYear e) tw_2372 ks_X12_isYear ⟨Nat.le_of_ble_eq_true rfl, Nat.le_of_ble_eq_true rfl⟩ rfl dX12_stock_37 rfl (Nat.le_of_ble_eq_true rfl) (fun r37 σ37 h => ?_)
      refine nw_if_eq (tgt := 51) C dX12_stock_40 (by decide) h (fun _ h => ?_) (fun _ h => ?_)
      · refine nw_iconst (v := 1) C dX12_stock_51 (by decide) ?_
        refine nw_goto (tgt := 56) C dX12_stock_52 (by decide) ?_
        exact nw_lv (lv' := [(0, .ref (am 112)), (1, .int x1), (2, .int x2), (3, .int x3), (4, .int x4)]) [0, 1, 2, 3, 4] rfl (w_M_stock_56 C hr x1 x2 x3 x4 1 _ h)
      · refine nw_iload C dX12_stock_43 4 rfl ?_
        refine nm_callSI  (As := [.int x4]) (rest := [.ref (am 112)]) C h (fun _ _ e => c_M_isDay e) tw_1936 ks_X12_isDay ⟨Nat.le_of_ble_eq_true rfl, Nat.le_of_ble_eq_true rfl⟩ rfl dX12_stock_45 rfl (Nat.le_of_ble_eq_true rfl) (fun r45 σ45 h => ?_)
        refine nw_if_ne (tgt := 55) C dX12_stock_48 (by decide) h (fun _ h => ?_) (fun _ h => ?_)
        · refine nw_iconst (v := 1) C dX12_stock_51 (by decide) ?_
          refine nw_goto (tgt := 56) C dX12_stock_52 (by decide) ?_
          exact nw_lv (lv' := [(0, .ref (am 112)), (1, .int x1), (2, .int x2), (3, .int x3), (4, .int x4)]) [0, 1, 2, 3, 4] rfl (w_M_stock_56 C hr x1 x2 x3 x4 1 _ h)
        · refine nw_iconst (v := 0) C dX12_stock_55 (by decide) ?_
          exact nw_lv (lv' := [(0, .ref (am 112)), (1, .int x1), (2, .int x2), (3, .int x3), (4, .int x4)]) [0, 1, 2, 3, 4] rfl (w_M_stock_56 C hr x1 x2 x3 x4 0 _ h)
  · refine nw_iconst (v := 0) C dX12_stock_63 (by decide) ?_
    exact nm_iret C hr dX12_stock_64 h
def f_M_stock (p0 : Int32) (p1 : Int32) (p2 : Int32) (p3 : Int32) (σ : CS) : Option (Int32 × CS) := bnd (f_M_isWood p0 (sF σ 0 0)) (fun r8 σ8 => if r8 = 0 then B_M_stock_19 p0 p1 p2 p3 1 σ8 else B_M_stock_19 p0 p1 p2 p3 0 σ8)
set_option maxHeartbeats 4000000 in
set_option maxRecDepth 100000 in
theorem c_M_stock {l : Launch} {g : EG} {am : Nat → Nat} {Rr : va_W} {σ σ' : CS} {r : Int32} {p0 : Int32} {p1 : Int32} {p2 : Int32} {p3 : Int32}  (h : f_M_stock p0 p1 p2 p3 σ = some (r, σ')) : CmI l g yX12_stock (.code yX12_stock cX12_stock 8 (some .int)) 2 43 am Rr σ [.ref (am 112), .int p0, .int p1, .int p2, .int p3] r σ' := by
  refine Ct.of rfl (by decide) (Nat.le_of_ble_eq_true rfl) ?_
  intro p e s m args below meth c A C hr
  show NMI g p l e s m args below meth c A 2 43 8 am Rr (r, σ') σ [(0, .ref (am 112)), (1, .int p0), (2, .int p1), (3, .int p2), (4, .int p3)] 0 []
  unfold f_M_stock at h
  refine nw_aload_n C dX12_stock_0 rfl 0 rfl ?_
  refine nw_iconst (v := 0) C dX12_stock_1 (by decide) ?_
  refine nw_put (ty := .int) C in_X12 0 ml_O rfl 0 (by decide) tyX12 tyX12_ok nmX12 tw_1573 rfl rfl (by decide +kernel) rfl rfl (Nat.le_of_ble_eq_true rfl) dX12_stock_2 ms_0 ?_
  refine nw_aload_n C dX12_stock_5 rfl 0 rfl ?_
  refine nw_aload_n C dX12_stock_6 rfl 0 rfl ?_
  refine nw_iload_n C dX12_stock_7 rfl 1 rfl ?_
  refine nm_callVI (q0 := 0) (As := [.int p0]) (rest := [.ref (am 112)]) C h (fun _ _ e => c_M_isWood e) tw_2379 kv_X12_isWood ml_O rfl ⟨Nat.le_of_ble_eq_true rfl, Nat.le_of_ble_eq_true rfl⟩ rfl dX12_stock_8 rfl (Nat.le_of_ble_eq_true rfl) (fun r8 σ8 h => ?_)
  refine nw_if_ne (tgt := 18) C dX12_stock_11 (by decide) h (fun _ h => ?_) (fun _ h => ?_)
  · refine nw_iconst (v := 1) C dX12_stock_14 (by decide) ?_
    refine nw_goto (tgt := 19) C dX12_stock_15 (by decide) ?_
    exact nw_lv (lv' := [(0, .ref (am 112)), (1, .int p0), (2, .int p1), (3, .int p2), (4, .int p3)]) [0, 1, 2, 3, 4] rfl (w_M_stock_19 C hr p0 p1 p2 p3 1 _ h)
  · refine nw_iconst (v := 0) C dX12_stock_18 (by decide) ?_
    exact nw_lv (lv' := [(0, .ref (am 112)), (1, .int p0), (2, .int p1), (3, .int p2), (4, .int p3)]) [0, 1, 2, 3, 4] rfl (w_M_stock_19 C hr p0 p1 p2 p3 0 _ h)
theorem dX12_count_0 : decode cX12_count 0 = .ok (.aload_n 0, 1) := by decide +kernel
theorem dX12_count_1 : decode cX12_count 1 = .ok (.iconst 0, 1) := by decide +kernel
theorem dX12_count_2 : decode cX12_count 2 = .ok (.putfield 253, 3) := by decide +kernel
theorem dX12_count_5 : decode cX12_count 5 = .ok (.iload_n 1, 1) := by decide +kernel
theorem dX12_count_6 : decode cX12_count 6 = .ok (.tableswitch 140 0 13 #[70, 75, 80, 85, 90, 95, 100, 105, 110, 115, 120, 125, 130, 135], 70) := by decide +kernel
theorem dX12_count_76 : decode cX12_count 76 = .ok (.aload_n 0, 1) := by decide +kernel
theorem dX12_count_77 : decode cX12_count 77 = .ok (.getfield 513, 3) := by decide +kernel
theorem dX12_count_80 : decode cX12_count 80 = .ok (.ireturn, 1) := by decide +kernel
theorem dX12_count_81 : decode cX12_count 81 = .ok (.aload_n 0, 1) := by decide +kernel
theorem dX12_count_82 : decode cX12_count 82 = .ok (.getfield 269, 3) := by decide +kernel
theorem dX12_count_85 : decode cX12_count 85 = .ok (.ireturn, 1) := by decide +kernel
theorem dX12_count_86 : decode cX12_count 86 = .ok (.aload_n 0, 1) := by decide +kernel
theorem dX12_count_87 : decode cX12_count 87 = .ok (.getfield 302, 3) := by decide +kernel
theorem dX12_count_90 : decode cX12_count 90 = .ok (.ireturn, 1) := by decide +kernel
theorem dX12_count_91 : decode cX12_count 91 = .ok (.aload_n 0, 1) := by decide +kernel
theorem dX12_count_92 : decode cX12_count 92 = .ok (.getfield 422, 3) := by decide +kernel
theorem dX12_count_95 : decode cX12_count 95 = .ok (.ireturn, 1) := by decide +kernel
theorem dX12_count_96 : decode cX12_count 96 = .ok (.aload_n 0, 1) := by decide +kernel
theorem dX12_count_97 : decode cX12_count 97 = .ok (.getfield 504, 3) := by decide +kernel
theorem dX12_count_100 : decode cX12_count 100 = .ok (.ireturn, 1) := by decide +kernel
theorem dX12_count_101 : decode cX12_count 101 = .ok (.aload_n 0, 1) := by decide +kernel
theorem dX12_count_102 : decode cX12_count 102 = .ok (.getfield 519, 3) := by decide +kernel
theorem dX12_count_105 : decode cX12_count 105 = .ok (.ireturn, 1) := by decide +kernel
theorem dX12_count_106 : decode cX12_count 106 = .ok (.aload_n 0, 1) := by decide +kernel
theorem dX12_count_107 : decode cX12_count 107 = .ok (.getfield 522, 3) := by decide +kernel
theorem dX12_count_110 : decode cX12_count 110 = .ok (.ireturn, 1) := by decide +kernel
theorem dX12_count_111 : decode cX12_count 111 = .ok (.aload_n 0, 1) := by decide +kernel
theorem dX12_count_112 : decode cX12_count 112 = .ok (.getfield 566, 3) := by decide +kernel
theorem dX12_count_115 : decode cX12_count 115 = .ok (.ireturn, 1) := by decide +kernel
theorem dX12_count_116 : decode cX12_count 116 = .ok (.aload_n 0, 1) := by decide +kernel
theorem dX12_count_117 : decode cX12_count 117 = .ok (.getfield 578, 3) := by decide +kernel
theorem dX12_count_120 : decode cX12_count 120 = .ok (.ireturn, 1) := by decide +kernel
theorem dX12_count_121 : decode cX12_count 121 = .ok (.aload_n 0, 1) := by decide +kernel
theorem dX12_count_122 : decode cX12_count 122 = .ok (.getfield 554, 3) := by decide +kernel
theorem dX12_count_125 : decode cX12_count 125 = .ok (.ireturn, 1) := by decide +kernel
theorem dX12_count_126 : decode cX12_count 126 = .ok (.aload_n 0, 1) := by decide +kernel
theorem dX12_count_127 : decode cX12_count 127 = .ok (.getfield 622, 3) := by decide +kernel
theorem dX12_count_130 : decode cX12_count 130 = .ok (.ireturn, 1) := by decide +kernel
theorem dX12_count_131 : decode cX12_count 131 = .ok (.aload_n 0, 1) := by decide +kernel
theorem dX12_count_132 : decode cX12_count 132 = .ok (.getfield 642, 3) := by decide +kernel
theorem dX12_count_135 : decode cX12_count 135 = .ok (.ireturn, 1) := by decide +kernel
theorem dX12_count_136 : decode cX12_count 136 = .ok (.aload_n 0, 1) := by decide +kernel
theorem dX12_count_137 : decode cX12_count 137 = .ok (.getfield 648, 3) := by decide +kernel
theorem dX12_count_140 : decode cX12_count 140 = .ok (.ireturn, 1) := by decide +kernel
theorem dX12_count_141 : decode cX12_count 141 = .ok (.aload_n 0, 1) := by decide +kernel
theorem dX12_count_142 : decode cX12_count 142 = .ok (.getfield 272, 3) := by decide +kernel
theorem dX12_count_145 : decode cX12_count 145 = .ok (.ireturn, 1) := by decide +kernel
theorem dX12_count_146 : decode cX12_count 146 = .ok (.iconst (-1), 1) := by decide +kernel
theorem dX12_count_147 : decode cX12_count 147 = .ok (.ireturn, 1) := by decide +kernel
def f_M_count (p0 : Int32) (σ : CS) : Option (Int32 × CS) := if p0 = 0 then some ((σ.1 1), (sF σ 0 0)) else if p0 = 1 then some ((σ.1 2), (sF σ 0 0)) else if p0 = 2 then some ((σ.1 10), (sF σ 0 0)) else if p0 = 3 then some ((σ.1 21), (sF σ 0 0)) else if p0 = 4 then some ((σ.1 38), (sF σ 0 0)) else if p0 = 5 then some ((σ.1 44), (sF σ 0 0)) else if p0 = 6 then some ((σ.1 48), (sF σ 0 0)) else if p0 = 7 then some ((σ.1 60), (sF σ 0 0)) else if p0 = 8 then some ((σ.1 39), (sF σ 0 0)) else if p0 = 9 then some ((σ.1 71), (sF σ 0 0)) else if p0 = 10 then some ((σ.1 92), (sF σ 0 0)) else if p0 = 11 then some ((σ.1 102), (sF σ 0 0)) else if p0 = 12 then some ((σ.1 103), (sF σ 0 0)) else if p0 = 13 then some ((σ.1 7), (sF σ 0 0)) else some ((-1), (sF σ 0 0))
set_option maxHeartbeats 4000000 in
set_option maxRecDepth 100000 in
theorem c_M_count {l : Launch} {g : EG} {am : Nat → Nat} {Rr : va_W} {σ σ' : CS} {r : Int32} {p0 : Int32}  (h : f_M_count p0 σ = some (r, σ')) : CmI l g yX12_count (.code yX12_count cX12_count 2 (some .int)) 0 0 am Rr σ [.ref (am 112), .int p0] r σ' := by
  refine Ct.of rfl (by decide) (Nat.le_of_ble_eq_true rfl) ?_
  intro p e s m args below meth c A C hr
  show NMI g p l e s m args below meth c A 0 0 2 am Rr (r, σ') σ [(0, .ref (am 112)), (1, .int p0)] 0 []
  unfold f_M_count at h
  refine nw_aload_n C dX12_count_0 rfl 0 rfl ?_
  refine nw_iconst (v := 0) C dX12_count_1 (by decide) ?_
  refine nw_put (ty := .int) C in_X12 0 ml_O rfl 0 (by decide) tyX12 tyX12_ok nmX12 tw_1573 rfl rfl (by decide +kernel) rfl rfl (Nat.le_of_ble_eq_true rfl) dX12_count_2 ms_0 ?_
  refine nw_iload_n C dX12_count_5 rfl 1 rfl ?_
  refine nw_tsCase (tgt := 76) C 0 dX12_count_6 (by decide) (by decide) rfl (by decide) h (fun _ h => ?_) (fun hc0 h => ?_)
  · refine nw_aload_n C dX12_count_76 rfl 0 rfl ?_
    refine nw_get (v := .int (σ.1 1)) C in_X12 0 ml_O rfl 1 (by decide) tw_1574 rfl rfl dX12_count_77 ?_
    exact nm_iret C hr dX12_count_80 h
  · refine nw_tsCase (tgt := 81) C 1 dX12_count_6 (by decide) (by decide) rfl (by decide) h (fun _ h => ?_) (fun hc1 h => ?_)
    · refine nw_aload_n C dX12_count_81 rfl 0 rfl ?_
      refine nw_get (v := .int (σ.1 2)) C in_X12 0 ml_O rfl 2 (by decide) tw_1575 rfl rfl dX12_count_82 ?_
      exact nm_iret C hr dX12_count_85 h
    · refine nw_tsCase (tgt := 86) C 2 dX12_count_6 (by decide) (by decide) rfl (by decide) h (fun _ h => ?_) (fun hc2 h => ?_)
      · refine nw_aload_n C dX12_count_86 rfl 0 rfl ?_
        refine nw_get (v := .int (σ.1 10)) C in_X12 0 ml_O rfl 10 (by decide) tw_1583 rfl rfl dX12_count_87 ?_
        exact nm_iret C hr dX12_count_90 h
      · refine nw_tsCase (tgt := 91) C 3 dX12_count_6 (by decide) (by decide) rfl (by decide) h (fun _ h => ?_) (fun hc3 h => ?_)
        · refine nw_aload_n C dX12_count_91 rfl 0 rfl ?_
          refine nw_get (v := .int (σ.1 21)) C in_X12 0 ml_O rfl 21 (by decide) tw_1594 rfl rfl dX12_count_92 ?_
          exact nm_iret C hr dX12_count_95 h
        · refine nw_tsCase (tgt := 96) C 4 dX12_count_6 (by decide) (by decide) rfl (by decide) h (fun _ h => ?_) (fun hc4 h => ?_)
          · refine nw_aload_n C dX12_count_96 rfl 0 rfl ?_
            refine nw_get (v := .int (σ.1 38)) C in_X12 0 ml_O rfl 38 (by decide) tw_1611 rfl rfl dX12_count_97 ?_
            exact nm_iret C hr dX12_count_100 h
          · refine nw_tsCase (tgt := 101) C 5 dX12_count_6 (by decide) (by decide) rfl (by decide) h (fun _ h => ?_) (fun hc5 h => ?_)
            · refine nw_aload_n C dX12_count_101 rfl 0 rfl ?_
              refine nw_get (v := .int (σ.1 44)) C in_X12 0 ml_O rfl 44 (by decide) tw_1617 rfl rfl dX12_count_102 ?_
              exact nm_iret C hr dX12_count_105 h
            · refine nw_tsCase (tgt := 106) C 6 dX12_count_6 (by decide) (by decide) rfl (by decide) h (fun _ h => ?_) (fun hc6 h => ?_)
              · refine nw_aload_n C dX12_count_106 rfl 0 rfl ?_
                refine nw_get (v := .int (σ.1 48)) C in_X12 0 ml_O rfl 48 (by decide) tw_1621 rfl rfl dX12_count_107 ?_
                exact nm_iret C hr dX12_count_110 h
              · refine nw_tsCase (tgt := 111) C 7 dX12_count_6 (by decide) (by decide) rfl (by decide) h (fun _ h => ?_) (fun hc7 h => ?_)
                · refine nw_aload_n C dX12_count_111 rfl 0 rfl ?_
                  refine nw_get (v := .int (σ.1 60)) C in_X12 0 ml_O rfl 60 (by decide) tw_1633 rfl rfl dX12_count_112 ?_
                  exact nm_iret C hr dX12_count_115 h
                · refine nw_tsCase (tgt := 116) C 8 dX12_count_6 (by decide) (by decide) rfl (by decide) h (fun _ h => ?_) (fun hc8 h => ?_)
                  · refine nw_aload_n C dX12_count_116 rfl 0 rfl ?_
                    refine nw_get (v := .int (σ.1 39)) C in_X12 0 ml_O rfl 39 (by decide) tw_1612 rfl rfl dX12_count_117 ?_
                    exact nm_iret C hr dX12_count_120 h
                  · refine nw_tsCase (tgt := 121) C 9 dX12_count_6 (by decide) (by decide) rfl (by decide) h (fun _ h => ?_) (fun hc9 h => ?_)
                    · refine nw_aload_n C dX12_count_121 rfl 0 rfl ?_
                      refine nw_get (v := .int (σ.1 71)) C in_X12 0 ml_O rfl 71 (by decide) tw_1644 rfl rfl dX12_count_122 ?_
                      exact nm_iret C hr dX12_count_125 h
                    · refine nw_tsCase (tgt := 126) C 10 dX12_count_6 (by decide) (by decide) rfl (by decide) h (fun _ h => ?_) (fun hc10 h => ?_)
                      · refine nw_aload_n C dX12_count_126 rfl 0 rfl ?_
                        refine nw_get (v := .int (σ.1 92)) C in_X12 0 ml_O rfl 92 (by decide) tw_1665 rfl rfl dX12_count_127 ?_
                        exact nm_iret C hr dX12_count_130 h
                      · refine nw_tsCase (tgt := 131) C 11 dX12_count_6 (by decide) (by decide) rfl (by decide) h (fun _ h => ?_) (fun hc11 h => ?_)
                        · refine nw_aload_n C dX12_count_131 rfl 0 rfl ?_
                          refine nw_get (v := .int (σ.1 102)) C in_X12 0 ml_O rfl 102 (by decide) tw_1675 rfl rfl dX12_count_132 ?_
                          exact nm_iret C hr dX12_count_135 h
                        · refine nw_tsCase (tgt := 136) C 12 dX12_count_6 (by decide) (by decide) rfl (by decide) h (fun _ h => ?_) (fun hc12 h => ?_)
                          · refine nw_aload_n C dX12_count_136 rfl 0 rfl ?_
                            refine nw_get (v := .int (σ.1 103)) C in_X12 0 ml_O rfl 103 (by decide) tw_1676 rfl rfl dX12_count_137 ?_
                            exact nm_iret C hr dX12_count_140 h
                          · refine nw_tsCase (tgt := 141) C 13 dX12_count_6 (by decide) (by decide) rfl (by decide) h (fun _ h => ?_) (fun hc13 h => ?_)
                            · refine nw_aload_n C dX12_count_141 rfl 0 rfl ?_
                              refine nw_get (v := .int (σ.1 7)) C in_X12 0 ml_O rfl 7 (by decide) tw_1580 rfl rfl dX12_count_142 ?_
                              exact nm_iret C hr dX12_count_145 h
                            · refine nw_tsOut (tgt := 146) C dX12_count_6 (by have q0 := lv_neT hc0 (a := 0) (by decide); have q1 := lv_neT hc1 (a := 1) (by decide); have q2 := lv_neT hc2 (a := 2) (by decide); have q3 := lv_neT hc3 (a := 3) (by decide); have q4 := lv_neT hc4 (a := 4) (by decide); have q5 := lv_neT hc5 (a := 5) (by decide); have q6 := lv_neT hc6 (a := 6) (by decide); have q7 := lv_neT hc7 (a := 7) (by decide); have q8 := lv_neT hc8 (a := 8) (by decide); have q9 := lv_neT hc9 (a := 9) (by decide); have q10 := lv_neT hc10 (a := 10) (by decide); have q11 := lv_neT hc11 (a := 11) (by decide); have q12 := lv_neT hc12 (a := 12) (by decide); have q13 := lv_neT hc13 (a := 13) (by decide); omega) (by decide) ?_
                              refine nw_iconst (v := (-1)) C dX12_count_146 (by decide) ?_
                              exact nm_iret C hr dX12_count_147 h
end
