section
variable {g : EG} {p : Program} {l : Launch} {e : Env} {s : State} {m : MethodId} {args : Array Value} {below : List Frame} {meth : Method} {c : Code} {A : Nat → Prop} {ad am ta : Nat → Nat} {Rr : va_W} {φ0 : Nat}
theorem dX2_isNear_0 : decode cX2_isNear 0 = .ok (.aload_n 0, 1) := by decide +kernel
theorem dX2_isNear_1 : decode cX2_isNear 1 = .ok (.getfield 16, 3) := by decide +kernel
theorem dX2_isNear_4 : decode cX2_isNear 4 = .ok (.iload_n 2, 1) := by decide +kernel
theorem dX2_isNear_5 : decode cX2_isNear 5 = .ok (.iconst 1, 1) := by decide +kernel
theorem dX2_isNear_6 : decode cX2_isNear 6 = .ok (.invokevirtual 31, 3) := by decide +kernel
theorem dX2_isNear_9 : decode cX2_isNear 9 = .ok (.aload_n 0, 1) := by decide +kernel
theorem dX2_isNear_10 : decode cX2_isNear 10 = .ok (.getfield 16, 3) := by decide +kernel
theorem dX2_isNear_13 : decode cX2_isNear 13 = .ok (.iload_n 1, 1) := by decide +kernel
theorem dX2_isNear_14 : decode cX2_isNear 14 = .ok (.iconst 1, 1) := by decide +kernel
theorem dX2_isNear_15 : decode cX2_isNear 15 = .ok (.invokevirtual 31, 3) := by decide +kernel
theorem dX2_isNear_18 : decode cX2_isNear 18 = .ok (.isub, 1) := by decide +kernel
theorem dX2_isNear_19 : decode cX2_isNear 19 = .ok (.i2l, 1) := by decide +kernel
theorem dX2_isNear_20 : decode cX2_isNear 20 = .ok (.lstore 5, 2) := by decide +kernel
theorem dX2_isNear_22 : decode cX2_isNear 22 = .ok (.aload_n 0, 1) := by decide +kernel
theorem dX2_isNear_23 : decode cX2_isNear 23 = .ok (.getfield 16, 3) := by decide +kernel
theorem dX2_isNear_26 : decode cX2_isNear 26 = .ok (.iload_n 2, 1) := by decide +kernel
theorem dX2_isNear_27 : decode cX2_isNear 27 = .ok (.iconst 2, 1) := by decide +kernel
theorem dX2_isNear_28 : decode cX2_isNear 28 = .ok (.invokevirtual 31, 3) := by decide +kernel
theorem dX2_isNear_31 : decode cX2_isNear 31 = .ok (.aload_n 0, 1) := by decide +kernel
theorem dX2_isNear_32 : decode cX2_isNear 32 = .ok (.getfield 16, 3) := by decide +kernel
theorem dX2_isNear_35 : decode cX2_isNear 35 = .ok (.iload_n 1, 1) := by decide +kernel
theorem dX2_isNear_36 : decode cX2_isNear 36 = .ok (.iconst 2, 1) := by decide +kernel
theorem dX2_isNear_37 : decode cX2_isNear 37 = .ok (.invokevirtual 31, 3) := by decide +kernel
theorem dX2_isNear_40 : decode cX2_isNear 40 = .ok (.isub, 1) := by decide +kernel
theorem dX2_isNear_41 : decode cX2_isNear 41 = .ok (.i2l, 1) := by decide +kernel
theorem dX2_isNear_42 : decode cX2_isNear 42 = .ok (.lstore 7, 2) := by decide +kernel
theorem dX2_isNear_44 : decode cX2_isNear 44 = .ok (.iload_n 3, 1) := by decide +kernel
theorem dX2_isNear_45 : decode cX2_isNear 45 = .ok (.aload_n 0, 1) := by decide +kernel
theorem dX2_isNear_46 : decode cX2_isNear 46 = .ok (.getfield 16, 3) := by decide +kernel
theorem dX2_isNear_49 : decode cX2_isNear 49 = .ok (.iload_n 1, 1) := by decide +kernel
theorem dX2_isNear_50 : decode cX2_isNear 50 = .ok (.iconst 1, 1) := by decide +kernel
theorem dX2_isNear_51 : decode cX2_isNear 51 = .ok (.invokevirtual 31, 3) := by decide +kernel
theorem dX2_isNear_54 : decode cX2_isNear 54 = .ok (.isub, 1) := by decide +kernel
theorem dX2_isNear_55 : decode cX2_isNear 55 = .ok (.i2l, 1) := by decide +kernel
theorem dX2_isNear_56 : decode cX2_isNear 56 = .ok (.lstore 9, 2) := by decide +kernel
theorem dX2_isNear_58 : decode cX2_isNear 58 = .ok (.iload 4, 2) := by decide +kernel
theorem dX2_isNear_60 : decode cX2_isNear 60 = .ok (.aload_n 0, 1) := by decide +kernel
theorem dX2_isNear_61 : decode cX2_isNear 61 = .ok (.getfield 16, 3) := by decide +kernel
theorem dX2_isNear_64 : decode cX2_isNear 64 = .ok (.iload_n 1, 1) := by decide +kernel
theorem dX2_isNear_65 : decode cX2_isNear 65 = .ok (.iconst 2, 1) := by decide +kernel
theorem dX2_isNear_66 : decode cX2_isNear 66 = .ok (.invokevirtual 31, 3) := by decide +kernel
theorem dX2_isNear_69 : decode cX2_isNear 69 = .ok (.isub, 1) := by decide +kernel
theorem dX2_isNear_70 : decode cX2_isNear 70 = .ok (.i2l, 1) := by decide +kernel
theorem dX2_isNear_71 : decode cX2_isNear 71 = .ok (.lstore 11, 2) := by decide +kernel
theorem dX2_isNear_73 : decode cX2_isNear 73 = .ok (.lload 9, 2) := by decide +kernel
theorem dX2_isNear_75 : decode cX2_isNear 75 = .ok (.lload 5, 2) := by decide +kernel
theorem dX2_isNear_77 : decode cX2_isNear 77 = .ok (.lmul, 1) := by decide +kernel
theorem dX2_isNear_78 : decode cX2_isNear 78 = .ok (.lload 11, 2) := by decide +kernel
theorem dX2_isNear_80 : decode cX2_isNear 80 = .ok (.lload 7, 2) := by decide +kernel
theorem dX2_isNear_82 : decode cX2_isNear 82 = .ok (.lmul, 1) := by decide +kernel
theorem dX2_isNear_83 : decode cX2_isNear 83 = .ok (.ladd, 1) := by decide +kernel
theorem dX2_isNear_84 : decode cX2_isNear 84 = .ok (.lstore 13, 2) := by decide +kernel
theorem dX2_isNear_86 : decode cX2_isNear 86 = .ok (.lload 5, 2) := by decide +kernel
theorem dX2_isNear_88 : decode cX2_isNear 88 = .ok (.lload 5, 2) := by decide +kernel
theorem dX2_isNear_90 : decode cX2_isNear 90 = .ok (.lmul, 1) := by decide +kernel
theorem dX2_isNear_91 : decode cX2_isNear 91 = .ok (.lload 7, 2) := by decide +kernel
theorem dX2_isNear_93 : decode cX2_isNear 93 = .ok (.lload 7, 2) := by decide +kernel
theorem dX2_isNear_95 : decode cX2_isNear 95 = .ok (.lmul, 1) := by decide +kernel
theorem dX2_isNear_96 : decode cX2_isNear 96 = .ok (.ladd, 1) := by decide +kernel
theorem dX2_isNear_97 : decode cX2_isNear 97 = .ok (.lstore 15, 2) := by decide +kernel
theorem dX2_isNear_99 : decode cX2_isNear 99 = .ok (.aload_n 0, 1) := by decide +kernel
theorem dX2_isNear_100 : decode cX2_isNear 100 = .ok (.getfield 104, 3) := by decide +kernel
theorem dX2_isNear_103 : decode cX2_isNear 103 = .ok (.i2l, 1) := by decide +kernel
theorem dX2_isNear_104 : decode cX2_isNear 104 = .ok (.aload_n 0, 1) := by decide +kernel
theorem dX2_isNear_105 : decode cX2_isNear 105 = .ok (.getfield 104, 3) := by decide +kernel
theorem dX2_isNear_108 : decode cX2_isNear 108 = .ok (.i2l, 1) := by decide +kernel
theorem dX2_isNear_109 : decode cX2_isNear 109 = .ok (.lmul, 1) := by decide +kernel
theorem dX2_isNear_110 : decode cX2_isNear 110 = .ok (.lstore 17, 2) := by decide +kernel
theorem dX2_isNear_112 : decode cX2_isNear 112 = .ok (.lload 13, 2) := by decide +kernel
theorem dX2_isNear_114 : decode cX2_isNear 114 = .ok (.lconst 0, 1) := by decide +kernel
theorem dX2_isNear_115 : decode cX2_isNear 115 = .ok (.lcmp, 1) := by decide +kernel
theorem dX2_isNear_116 : decode cX2_isNear 116 = .ok (.ifCond .gt 26, 3) := by decide +kernel
theorem dX2_isNear_119 : decode cX2_isNear 119 = .ok (.lload 9, 2) := by decide +kernel
theorem dX2_isNear_121 : decode cX2_isNear 121 = .ok (.lload 9, 2) := by decide +kernel
theorem dX2_isNear_123 : decode cX2_isNear 123 = .ok (.lmul, 1) := by decide +kernel
theorem dX2_isNear_124 : decode cX2_isNear 124 = .ok (.lload 11, 2) := by decide +kernel
theorem dX2_isNear_126 : decode cX2_isNear 126 = .ok (.lload 11, 2) := by decide +kernel
theorem dX2_isNear_128 : decode cX2_isNear 128 = .ok (.lmul, 1) := by decide +kernel
theorem dX2_isNear_129 : decode cX2_isNear 129 = .ok (.ladd, 1) := by decide +kernel
theorem dX2_isNear_130 : decode cX2_isNear 130 = .ok (.lload 17, 2) := by decide +kernel
theorem dX2_isNear_132 : decode cX2_isNear 132 = .ok (.lcmp, 1) := by decide +kernel
theorem dX2_isNear_133 : decode cX2_isNear 133 = .ok (.ifCond .gt 7, 3) := by decide +kernel
theorem dX2_isNear_136 : decode cX2_isNear 136 = .ok (.iconst 1, 1) := by decide +kernel
theorem dX2_isNear_137 : decode cX2_isNear 137 = .ok (.goto 4, 3) := by decide +kernel
theorem dX2_isNear_140 : decode cX2_isNear 140 = .ok (.iconst 0, 1) := by decide +kernel
theorem dX2_isNear_141 : decode cX2_isNear 141 = .ok (.ireturn, 1) := by decide +kernel
theorem dX2_isNear_142 : decode cX2_isNear 142 = .ok (.lload 13, 2) := by decide +kernel
theorem dX2_isNear_144 : decode cX2_isNear 144 = .ok (.lload 15, 2) := by decide +kernel
theorem dX2_isNear_146 : decode cX2_isNear 146 = .ok (.lcmp, 1) := by decide +kernel
theorem dX2_isNear_147 : decode cX2_isNear 147 = .ok (.ifCond .lt 38, 3) := by decide +kernel
theorem dX2_isNear_150 : decode cX2_isNear 150 = .ok (.lload 9, 2) := by decide +kernel
theorem dX2_isNear_152 : decode cX2_isNear 152 = .ok (.lload 5, 2) := by decide +kernel
theorem dX2_isNear_154 : decode cX2_isNear 154 = .ok (.lsub, 1) := by decide +kernel
theorem dX2_isNear_155 : decode cX2_isNear 155 = .ok (.lload 9, 2) := by decide +kernel
theorem dX2_isNear_157 : decode cX2_isNear 157 = .ok (.lload 5, 2) := by decide +kernel
theorem dX2_isNear_159 : decode cX2_isNear 159 = .ok (.lsub, 1) := by decide +kernel
theorem dX2_isNear_160 : decode cX2_isNear 160 = .ok (.lmul, 1) := by decide +kernel
theorem dX2_isNear_161 : decode cX2_isNear 161 = .ok (.lload 11, 2) := by decide +kernel
theorem dX2_isNear_163 : decode cX2_isNear 163 = .ok (.lload 7, 2) := by decide +kernel
theorem dX2_isNear_165 : decode cX2_isNear 165 = .ok (.lsub, 1) := by decide +kernel
theorem dX2_isNear_166 : decode cX2_isNear 166 = .ok (.lload 11, 2) := by decide +kernel
theorem dX2_isNear_168 : decode cX2_isNear 168 = .ok (.lload 7, 2) := by decide +kernel
theorem dX2_isNear_170 : decode cX2_isNear 170 = .ok (.lsub, 1) := by decide +kernel
theorem dX2_isNear_171 : decode cX2_isNear 171 = .ok (.lmul, 1) := by decide +kernel
theorem dX2_isNear_172 : decode cX2_isNear 172 = .ok (.ladd, 1) := by decide +kernel
theorem dX2_isNear_173 : decode cX2_isNear 173 = .ok (.lload 17, 2) := by decide +kernel
theorem dX2_isNear_175 : decode cX2_isNear 175 = .ok (.lcmp, 1) := by decide +kernel
theorem dX2_isNear_176 : decode cX2_isNear 176 = .ok (.ifCond .gt 7, 3) := by decide +kernel
theorem dX2_isNear_179 : decode cX2_isNear 179 = .ok (.iconst 1, 1) := by decide +kernel
theorem dX2_isNear_180 : decode cX2_isNear 180 = .ok (.goto 4, 3) := by decide +kernel
theorem dX2_isNear_183 : decode cX2_isNear 183 = .ok (.iconst 0, 1) := by decide +kernel
theorem dX2_isNear_184 : decode cX2_isNear 184 = .ok (.ireturn, 1) := by decide +kernel
theorem dX2_isNear_185 : decode cX2_isNear 185 = .ok (.lload 9, 2) := by decide +kernel
theorem dX2_isNear_187 : decode cX2_isNear 187 = .ok (.lload 7, 2) := by decide +kernel
theorem dX2_isNear_189 : decode cX2_isNear 189 = .ok (.lmul, 1) := by decide +kernel
theorem dX2_isNear_190 : decode cX2_isNear 190 = .ok (.lload 11, 2) := by decide +kernel
theorem dX2_isNear_192 : decode cX2_isNear 192 = .ok (.lload 5, 2) := by decide +kernel
theorem dX2_isNear_194 : decode cX2_isNear 194 = .ok (.lmul, 1) := by decide +kernel
theorem dX2_isNear_195 : decode cX2_isNear 195 = .ok (.lsub, 1) := by decide +kernel
theorem dX2_isNear_196 : decode cX2_isNear 196 = .ok (.lstore 19, 2) := by decide +kernel
theorem dX2_isNear_198 : decode cX2_isNear 198 = .ok (.lload 19, 2) := by decide +kernel
theorem dX2_isNear_200 : decode cX2_isNear 200 = .ok (.lload 19, 2) := by decide +kernel
theorem dX2_isNear_202 : decode cX2_isNear 202 = .ok (.lmul, 1) := by decide +kernel
theorem dX2_isNear_203 : decode cX2_isNear 203 = .ok (.lload 17, 2) := by decide +kernel
theorem dX2_isNear_205 : decode cX2_isNear 205 = .ok (.lload 15, 2) := by decide +kernel
theorem dX2_isNear_207 : decode cX2_isNear 207 = .ok (.lmul, 1) := by decide +kernel
theorem dX2_isNear_208 : decode cX2_isNear 208 = .ok (.lcmp, 1) := by decide +kernel
theorem dX2_isNear_209 : decode cX2_isNear 209 = .ok (.ifCond .gt 7, 3) := by decide +kernel
theorem dX2_isNear_212 : decode cX2_isNear 212 = .ok (.iconst 1, 1) := by decide +kernel
theorem dX2_isNear_213 : decode cX2_isNear 213 = .ok (.goto 4, 3) := by decide +kernel
theorem dX2_isNear_216 : decode cX2_isNear 216 = .ok (.iconst 0, 1) := by decide +kernel
theorem dX2_isNear_217 : decode cX2_isNear 217 = .ok (.ireturn, 1) := by decide +kernel
def f_Ground_isNear (p0 : Int32) (p1 : Int32) (p2 : Int32) (p3 : Int32) (σ : CS) : Option (Int32 × CS) := bnd (f_Table_get 1 p1 1 σ) (fun r6 σ6 => bnd (f_Table_get 1 p0 1 σ6) (fun r15 σ15 => bnd (f_Table_get 1 p1 2 σ15) (fun r28 σ28 => bnd (f_Table_get 1 p0 2 σ28) (fun r37 σ37 => bnd (f_Table_get 1 p0 1 σ37) (fun r51 σ51 => bnd (f_Table_get 1 p0 2 σ51) (fun r66 σ66 => if 0 < (lg_cmp (((((p2 - r51) : Int32).toInt64) * (((r6 - r15) : Int32).toInt64)) + ((((p3 - r66) : Int32).toInt64) * (((r28 - r37) : Int32).toInt64))) 0) then if (lg_cmp (((((p2 - r51) : Int32).toInt64) * (((r6 - r15) : Int32).toInt64)) + ((((p3 - r66) : Int32).toInt64) * (((r28 - r37) : Int32).toInt64))) (((((r6 - r15) : Int32).toInt64) * (((r6 - r15) : Int32).toInt64)) + ((((r28 - r37) : Int32).toInt64) * (((r28 - r37) : Int32).toInt64)))) < 0 then if 0 < (lg_cmp ((((((p2 - r51) : Int32).toInt64) * (((r28 - r37) : Int32).toInt64)) - ((((p3 - r66) : Int32).toInt64) * (((r6 - r15) : Int32).toInt64))) * (((((p2 - r51) : Int32).toInt64) * (((r28 - r37) : Int32).toInt64)) - ((((p3 - r66) : Int32).toInt64) * (((r6 - r15) : Int32).toInt64)))) (((((σ66.1 48) : Int32).toInt64) * (((σ66.1 48) : Int32).toInt64)) * (((((r6 - r15) : Int32).toInt64) * (((r6 - r15) : Int32).toInt64)) + ((((r28 - r37) : Int32).toInt64) * (((r28 - r37) : Int32).toInt64))))) then some (0, σ66) else some (1, σ66) else if 0 < (lg_cmp ((((((p2 - r51) : Int32).toInt64) - (((r6 - r15) : Int32).toInt64)) * ((((p2 - r51) : Int32).toInt64) - (((r6 - r15) : Int32).toInt64))) + (((((p3 - r66) : Int32).toInt64) - (((r28 - r37) : Int32).toInt64)) * ((((p3 - r66) : Int32).toInt64) - (((r28 - r37) : Int32).toInt64)))) ((((σ66.1 48) : Int32).toInt64) * (((σ66.1 48) : Int32).toInt64))) then some (0, σ66) else some (1, σ66) else if 0 < (lg_cmp (((((p2 - r51) : Int32).toInt64) * (((p2 - r51) : Int32).toInt64)) + ((((p3 - r66) : Int32).toInt64) * (((p3 - r66) : Int32).toInt64))) ((((σ66.1 48) : Int32).toInt64) * (((σ66.1 48) : Int32).toInt64))) then some (0, σ66) else some (1, σ66)))))))
set_option maxHeartbeats 4000000 in
set_option maxRecDepth 100000 in
theorem c_Ground_isNear {l : Launch} {g : EG} {ad ta : Nat → Nat} {Rr : va_W} {σ σ' : CS} {r : Int32} {p0 : Int32} {p1 : Int32} {p2 : Int32} {p3 : Int32}  (h : f_Ground_isNear p0 p1 p2 p3 σ = some (r, σ')) (hφ2 : ph σ.2.2 ≤ BB) : CtI l g yX2_isNear (.code yX2_isNear cX2_isNear 21 (some .boolean)) 1 23 ad ta Rr σ [.ref (ad 1), .int p0, .int p1, .int p2, .int p3] r σ' := by
  refine Ct.of rfl (by decide) (Nat.le_of_ble_eq_true rfl) ?_
  intro p e s m args below meth c A C hr
  have hφ : ph σ.2.2 ≤ ph σ.2.2 := Nat.le_refl _
  refine nw_zero (ph σ.2.2) ?_
  show NI g p l e s m args below meth c A 1 23 21 ad Rr (ph σ.2.2) (r, σ') ta σ [(0, .ref (ad 1)), (1, .int p0), (2, .int p1), (3, .int p2), (4, .int p3)] 0 []
  unfold f_Ground_isNear at h
  refine nw_aload_n C dX2_isNear_0 rfl 0 rfl ?_
  refine nw_get (v := .ref (ad 12)) C in_X2 1 cl_Ground rfl 0 (by decide) tw_189 rfl rfl dX2_isNear_1 ?_
  refine nw_iload_n C dX2_isNear_4 rfl 2 rfl ?_
  refine nw_iconst (v := 1) C dX2_isNear_5 (by decide) ?_
  refine nc_callVI (q0 := 12) (As := [.int p1, .int 1]) (rest := []) C h (fun _ _ e => c_Table_get 1 (by decide) e hφ2) tw_841 kv_X9_get (cl_T 1 (by decide)) rfl ⟨Nat.le_of_ble_eq_true rfl, Nat.le_of_ble_eq_true rfl⟩ rfl dX2_isNear_6 rfl (Nat.le_of_ble_eq_true rfl) hφ hφ2 (fun r6 σ6 ta h hφ hφ2 => ?_)
  refine nw_aload_n C dX2_isNear_9 rfl 0 rfl ?_
  refine nw_get (v := .ref (ad 12)) C in_X2 1 cl_Ground rfl 0 (by decide) tw_189 rfl rfl dX2_isNear_10 ?_
  refine nw_iload_n C dX2_isNear_13 rfl 1 rfl ?_
  refine nw_iconst (v := 1) C dX2_isNear_14 (by decide) ?_
  refine nc_callVI (q0 := 12) (As := [.int p0, .int 1]) (rest := [.int r6]) C h (fun _ _ e => c_Table_get 1 (by decide) e hφ2) tw_841 kv_X9_get (cl_T 1 (by decide)) rfl ⟨Nat.le_of_ble_eq_true rfl, Nat.le_of_ble_eq_true rfl⟩ rfl dX2_isNear_15 rfl (Nat.le_of_ble_eq_true rfl) hφ hφ2 (fun r15 σ15 ta h hφ hφ2 => ?_)
  refine nw_isub C dX2_isNear_18 ?_
  refine nw_i2l C dX2_isNear_19 ?_
  refine nw_lstore (lv' := [(5, .long (((r6 - r15) : Int32).toInt64)), (0, .ref (ad 1)), (1, .int p0), (2, .int p1), (3, .int p2), (4, .int p3)]) C dX2_isNear_20 (by decide) rfl ?_
  refine nw_aload_n C dX2_isNear_22 rfl 1 rfl ?_
  refine nw_get (v := .ref (ad 12)) C in_X2 1 cl_Ground rfl 0 (by decide) tw_189 rfl rfl dX2_isNear_23 ?_
  refine nw_iload_n C dX2_isNear_26 rfl 3 rfl ?_
  refine nw_iconst (v := 2) C dX2_isNear_27 (by decide) ?_
  refine nc_callVI (q0 := 12) (As := [.int p1, .int 2]) (rest := []) C h (fun _ _ e => c_Table_get 1 (by decide) e hφ2) tw_841 kv_X9_get (cl_T 1 (by decide)) rfl ⟨Nat.le_of_ble_eq_true rfl, Nat.le_of_ble_eq_true rfl⟩ rfl dX2_isNear_28 rfl (Nat.le_of_ble_eq_true rfl) hφ hφ2 (fun r28 σ28 ta h hφ hφ2 => ?_)
  refine nw_aload_n C dX2_isNear_31 rfl 1 rfl ?_
  refine nw_get (v := .ref (ad 12)) C in_X2 1 cl_Ground rfl 0 (by decide) tw_189 rfl rfl dX2_isNear_32 ?_
  refine nw_iload_n C dX2_isNear_35 rfl 2 rfl ?_
  refine nw_iconst (v := 2) C dX2_isNear_36 (by decide) ?_
  refine nc_callVI (q0 := 12) (As := [.int p0, .int 2]) (rest := [.int r28]) C h (fun _ _ e => c_Table_get 1 (by decide) e hφ2) tw_841 kv_X9_get (cl_T 1 (by decide)) rfl ⟨Nat.le_of_ble_eq_true rfl, Nat.le_of_ble_eq_true rfl⟩ rfl dX2_isNear_37 rfl (Nat.le_of_ble_eq_true rfl) hφ hφ2 (fun r37 σ37 ta h hφ hφ2 => ?_)
  refine nw_isub C dX2_isNear_40 ?_
  refine nw_i2l C dX2_isNear_41 ?_
  refine nw_lstore (lv' := [(7, .long (((r28 - r37) : Int32).toInt64)), (5, .long (((r6 - r15) : Int32).toInt64)), (0, .ref (ad 1)), (1, .int p0), (2, .int p1), (3, .int p2), (4, .int p3)]) C dX2_isNear_42 (by decide) rfl ?_
  refine nw_iload_n C dX2_isNear_44 rfl 5 rfl ?_
  refine nw_aload_n C dX2_isNear_45 rfl 2 rfl ?_
  refine nw_get (v := .ref (ad 12)) C in_X2 1 cl_Ground rfl 0 (by decide) tw_189 rfl rfl dX2_isNear_46 ?_
  refine nw_iload_n C dX2_isNear_49 rfl 3 rfl ?_
  refine nw_iconst (v := 1) C dX2_isNear_50 (by decide) ?_
  refine nc_callVI (q0 := 12) (As := [.int p0, .int 1]) (rest := [.int p2]) C h (fun _ _ e => c_Table_get 1 (by decide) e hφ2) tw_841 kv_X9_get (cl_T 1 (by decide)) rfl ⟨Nat.le_of_ble_eq_true rfl, Nat.le_of_ble_eq_true rfl⟩ rfl dX2_isNear_51 rfl (Nat.le_of_ble_eq_true rfl) hφ hφ2 (fun r51 σ51 ta h hφ hφ2 => ?_)
  refine nw_isub C dX2_isNear_54 ?_
  refine nw_i2l C dX2_isNear_55 ?_
  refine nw_lstore (lv' := [(9, .long (((p2 - r51) : Int32).toInt64)), (7, .long (((r28 - r37) : Int32).toInt64)), (5, .long (((r6 - r15) : Int32).toInt64)), (0, .ref (ad 1)), (1, .int p0), (2, .int p1), (3, .int p2), (4, .int p3)]) C dX2_isNear_56 (by decide) rfl ?_
  refine nw_iload C dX2_isNear_58 7 rfl ?_
  refine nw_aload_n C dX2_isNear_60 rfl 3 rfl ?_
  refine nw_get (v := .ref (ad 12)) C in_X2 1 cl_Ground rfl 0 (by decide) tw_189 rfl rfl dX2_isNear_61 ?_
  refine nw_iload_n C dX2_isNear_64 rfl 4 rfl ?_
  refine nw_iconst (v := 2) C dX2_isNear_65 (by decide) ?_
  refine nc_callVI (q0 := 12) (As := [.int p0, .int 2]) (rest := [.int p3]) C h (fun _ _ e => c_Table_get 1 (by decide) e hφ2) tw_841 kv_X9_get (cl_T 1 (by decide)) rfl ⟨Nat.le_of_ble_eq_true rfl, Nat.le_of_ble_eq_true rfl⟩ rfl dX2_isNear_66 rfl (Nat.le_of_ble_eq_true rfl) hφ hφ2 (fun r66 σ66 ta h hφ hφ2 => ?_)
  refine nw_isub C dX2_isNear_69 ?_
  refine nw_i2l C dX2_isNear_70 ?_
  refine nw_lstore (lv' := [(11, .long (((p3 - r66) : Int32).toInt64)), (9, .long (((p2 - r51) : Int32).toInt64)), (7, .long (((r28 - r37) : Int32).toInt64)), (5, .long (((r6 - r15) : Int32).toInt64)), (0, .ref (ad 1)), (1, .int p0), (2, .int p1), (3, .int p2), (4, .int p3)]) C dX2_isNear_71 (by decide) rfl ?_
  refine nw_lload C dX2_isNear_73 1 rfl ?_
  refine nw_lload C dX2_isNear_75 3 rfl ?_
  refine nw_lmul C dX2_isNear_77 ?_
  refine nw_lload C dX2_isNear_78 0 rfl ?_
  refine nw_lload C dX2_isNear_80 2 rfl ?_
  refine nw_lmul C dX2_isNear_82 ?_
  refine nw_ladd C dX2_isNear_83 ?_
  refine nw_lstore (lv' := [(13, .long (((((p2 - r51) : Int32).toInt64) * (((r6 - r15) : Int32).toInt64)) + ((((p3 - r66) : Int32).toInt64) * (((r28 - r37) : Int32).toInt64)))), (11, .long (((p3 - r66) : Int32).toInt64)), (9, .long (((p2 - r51) : Int32).toInt64)), (7, .long (((r28 - r37) : Int32).toInt64)), (5, .long (((r6 - r15) : Int32).toInt64)), (0, .ref (ad 1)), (1, .int p0), (2, .int p1), (3, .int p2), (4, .int p3)]) C dX2_isNear_84 (by decide) rfl ?_
  refine nw_lload C dX2_isNear_86 4 rfl ?_
  refine nw_lload C dX2_isNear_88 4 rfl ?_
  refine nw_lmul C dX2_isNear_90 ?_
  refine nw_lload C dX2_isNear_91 3 rfl ?_
  refine nw_lload C dX2_isNear_93 3 rfl ?_
  refine nw_lmul C dX2_isNear_95 ?_
  refine nw_ladd C dX2_isNear_96 ?_
  refine nw_lstore (lv' := [(15, .long (((((r6 - r15) : Int32).toInt64) * (((r6 - r15) : Int32).toInt64)) + ((((r28 - r37) : Int32).toInt64) * (((r28 - r37) : Int32).toInt64)))), (13, .long (((((p2 - r51) : Int32).toInt64) * (((r6 - r15) : Int32).toInt64)) + ((((p3 - r66) : Int32).toInt64) * (((r28 - r37) : Int32).toInt64)))), (11, .long (((p3 - r66) : Int32).toInt64)), (9, .long (((p2 - r51) : Int32).toInt64)), (7, .long (((r28 - r37) : Int32).toInt64)), (5, .long (((r6 - r15) : Int32).toInt64)), (0, .ref (ad 1)), (1, .int p0), (2, .int p1), (3, .int p2), (4, .int p3)]) C dX2_isNear_97 (by decide) rfl ?_
  refine nw_aload_n C dX2_isNear_99 rfl 6 rfl ?_
  refine nw_get (v := .int (σ66.1 48)) C in_X2 1 cl_Ground rfl 3 (by decide) tw_196 rfl rfl dX2_isNear_100 ?_
  refine nw_i2l C dX2_isNear_103 ?_
  refine nw_aload_n C dX2_isNear_104 rfl 6 rfl ?_
  refine nw_get (v := .int (σ66.1 48)) C in_X2 1 cl_Ground rfl 3 (by decide) tw_196 rfl rfl dX2_isNear_105 ?_
  refine nw_i2l C dX2_isNear_108 ?_
  refine nw_lmul C dX2_isNear_109 ?_
  refine nw_lstore (lv' := [(17, .long ((((σ66.1 48) : Int32).toInt64) * (((σ66.1 48) : Int32).toInt64))), (15, .long (((((r6 - r15) : Int32).toInt64) * (((r6 - r15) : Int32).toInt64)) + ((((r28 - r37) : Int32).toInt64) * (((r28 - r37) : Int32).toInt64)))), (13, .long (((((p2 - r51) : Int32).toInt64) * (((r6 - r15) : Int32).toInt64)) + ((((p3 - r66) : Int32).toInt64) * (((r28 - r37) : Int32).toInt64)))), (11, .long (((p3 - r66) : Int32).toInt64)), (9, .long (((p2 - r51) : Int32).toInt64)), (7, .long (((r28 - r37) : Int32).toInt64)), (5, .long (((r6 - r15) : Int32).toInt64)), (0, .ref (ad 1)), (1, .int p0), (2, .int p1), (3, .int p2), (4, .int p3)]) C dX2_isNear_110 (by decide) rfl ?_
  refine nw_lload C dX2_isNear_112 2 rfl ?_
  refine nw_lconst (v := 0) C dX2_isNear_114 (by decide) ?_
  refine nw_lcmp C dX2_isNear_115 ?_
  refine nw_if_gt (tgt := 142) C dX2_isNear_116 (by decide) h (fun _ h => ?_) (fun _ h => ?_)
  · refine nw_lload C dX2_isNear_142 2 rfl ?_
    refine nw_lload C dX2_isNear_144 1 rfl ?_
    refine nw_lcmp C dX2_isNear_146 ?_
    refine nw_if_lt (tgt := 185) C dX2_isNear_147 (by decide) h (fun _ h => ?_) (fun _ h => ?_)
    · refine nw_lload C dX2_isNear_185 4 rfl ?_
      refine nw_lload C dX2_isNear_187 5 rfl ?_
      refine nw_lmul C dX2_isNear_189 ?_
      refine nw_lload C dX2_isNear_190 3 rfl ?_
      refine nw_lload C dX2_isNear_192 6 rfl ?_
      refine nw_lmul C dX2_isNear_194 ?_
      refine nw_lsub C dX2_isNear_195 ?_
      refine nw_lstore (lv' := [(19, .long (((((p2 - r51) : Int32).toInt64) * (((r28 - r37) : Int32).toInt64)) - ((((p3 - r66) : Int32).toInt64) * (((r6 - r15) : Int32).toInt64)))), (17, .long ((((σ66.1 48) : Int32).toInt64) * (((σ66.1 48) : Int32).toInt64))), (15, .long (((((r6 - r15) : Int32).toInt64) * (((r6 - r15) : Int32).toInt64)) + ((((r28 - r37) : Int32).toInt64) * (((r28 - r37) : Int32).toInt64)))), (13, .long (((((p2 - r51) : Int32).toInt64) * (((r6 - r15) : Int32).toInt64)) + ((((p3 - r66) : Int32).toInt64) * (((r28 - r37) : Int32).toInt64)))), (11, .long (((p3 - r66) : Int32).toInt64)), (9, .long (((p2 - r51) : Int32).toInt64)), (7, .long (((r28 - r37) : Int32).toInt64)), (5, .long (((r6 - r15) : Int32).toInt64)), (0, .ref (ad 1)), (1, .int p0), (2, .int p1), (3, .int p2), (4, .int p3)]) C dX2_isNear_196 (by decide) rfl ?_
      refine nw_lload C dX2_isNear_198 0 rfl ?_
      refine nw_lload C dX2_isNear_200 0 rfl ?_
      refine nw_lmul C dX2_isNear_202 ?_
      refine nw_lload C dX2_isNear_203 1 rfl ?_
      refine nw_lload C dX2_isNear_205 2 rfl ?_
      refine nw_lmul C dX2_isNear_207 ?_
      refine nw_lcmp C dX2_isNear_208 ?_
      refine nw_if_gt (tgt := 216) C dX2_isNear_209 (by decide) h (fun _ h => ?_) (fun _ h => ?_)
      · refine nw_iconst (v := 0) C dX2_isNear_216 (by decide) ?_
        exact nc_zret C hr (Or.inl rfl) dX2_isNear_217 hφ hφ2 h
      · refine nw_iconst (v := 1) C dX2_isNear_212 (by decide) ?_
        refine nw_goto (tgt := 217) C dX2_isNear_213 (by decide) ?_
        exact nc_zret C hr (Or.inr rfl) dX2_isNear_217 hφ hφ2 h
    · refine nw_lload C dX2_isNear_150 4 rfl ?_
      refine nw_lload C dX2_isNear_152 6 rfl ?_
      refine nw_lsub C dX2_isNear_154 ?_
      refine nw_lload C dX2_isNear_155 4 rfl ?_
      refine nw_lload C dX2_isNear_157 6 rfl ?_
      refine nw_lsub C dX2_isNear_159 ?_
      refine nw_lmul C dX2_isNear_160 ?_
      refine nw_lload C dX2_isNear_161 3 rfl ?_
      refine nw_lload C dX2_isNear_163 5 rfl ?_
      refine nw_lsub C dX2_isNear_165 ?_
      refine nw_lload C dX2_isNear_166 3 rfl ?_
      refine nw_lload C dX2_isNear_168 5 rfl ?_
      refine nw_lsub C dX2_isNear_170 ?_
      refine nw_lmul C dX2_isNear_171 ?_
      refine nw_ladd C dX2_isNear_172 ?_
      refine nw_lload C dX2_isNear_173 0 rfl ?_
      refine nw_lcmp C dX2_isNear_175 ?_
      refine nw_if_gt (tgt := 183) C dX2_isNear_176 (by decide) h (fun _ h => ?_) (fun _ h => ?_)
      · refine nw_iconst (v := 0) C dX2_isNear_183 (by decide) ?_
        exact nc_zret C hr (Or.inl rfl) dX2_isNear_184 hφ hφ2 h
      · refine nw_iconst (v := 1) C dX2_isNear_179 (by decide) ?_
        refine nw_goto (tgt := 184) C dX2_isNear_180 (by decide) ?_
        exact nc_zret C hr (Or.inr rfl) dX2_isNear_184 hφ hφ2 h
  · refine nw_lload C dX2_isNear_119 4 rfl ?_
    refine nw_lload C dX2_isNear_121 4 rfl ?_
    refine nw_lmul C dX2_isNear_123 ?_
    refine nw_lload C dX2_isNear_124 3 rfl ?_
    refine nw_lload C dX2_isNear_126 3 rfl ?_
    refine nw_lmul C dX2_isNear_128 ?_
    refine nw_ladd C dX2_isNear_129 ?_
    refine nw_lload C dX2_isNear_130 0 rfl ?_
    refine nw_lcmp C dX2_isNear_132 ?_
    refine nw_if_gt (tgt := 140) C dX2_isNear_133 (by decide) h (fun _ h => ?_) (fun _ h => ?_)
    · refine nw_iconst (v := 0) C dX2_isNear_140 (by decide) ?_
      exact nc_zret C hr (Or.inl rfl) dX2_isNear_141 hφ hφ2 h
    · refine nw_iconst (v := 1) C dX2_isNear_136 (by decide) ?_
      refine nw_goto (tgt := 141) C dX2_isNear_137 (by decide) ?_
      exact nc_zret C hr (Or.inr rfl) dX2_isNear_141 hφ hφ2 h
theorem dX2_handOf_0 : decode cX2_handOf 0 = .ok (.iload_n 0, 1) := by decide +kernel
theorem dX2_handOf_1 : decode cX2_handOf 1 = .ok (.iload_n 3, 1) := by decide +kernel
theorem dX2_handOf_2 : decode cX2_handOf 2 = .ok (.imul, 1) := by decide +kernel
theorem dX2_handOf_3 : decode cX2_handOf 3 = .ok (.iload_n 1, 1) := by decide +kernel
theorem dX2_handOf_4 : decode cX2_handOf 4 = .ok (.iload_n 2, 1) := by decide +kernel
theorem dX2_handOf_5 : decode cX2_handOf 5 = .ok (.imul, 1) := by decide +kernel
theorem dX2_handOf_6 : decode cX2_handOf 6 = .ok (.isub, 1) := by decide +kernel
theorem dX2_handOf_7 : decode cX2_handOf 7 = .ok (.istore 4, 2) := by decide +kernel
theorem dX2_handOf_9 : decode cX2_handOf 9 = .ok (.iload 4, 2) := by decide +kernel
theorem dX2_handOf_11 : decode cX2_handOf 11 = .ok (.ifCond .le 7, 3) := by decide +kernel
theorem dX2_handOf_14 : decode cX2_handOf 14 = .ok (.iconst 1, 1) := by decide +kernel
theorem dX2_handOf_15 : decode cX2_handOf 15 = .ok (.goto 13, 3) := by decide +kernel
theorem dX2_handOf_18 : decode cX2_handOf 18 = .ok (.iload 4, 2) := by decide +kernel
theorem dX2_handOf_20 : decode cX2_handOf 20 = .ok (.ifCond .ge 7, 3) := by decide +kernel
theorem dX2_handOf_23 : decode cX2_handOf 23 = .ok (.iconst (-1), 1) := by decide +kernel
theorem dX2_handOf_24 : decode cX2_handOf 24 = .ok (.goto 4, 3) := by decide +kernel
theorem dX2_handOf_27 : decode cX2_handOf 27 = .ok (.iconst 0, 1) := by decide +kernel
theorem dX2_handOf_28 : decode cX2_handOf 28 = .ok (.ireturn, 1) := by decide +kernel
def f_Ground_handOf (p0 : Int32) (p1 : Int32) (p2 : Int32) (p3 : Int32) (σ : CS) : Option (Int32 × CS) := if ((p0 * p3) - (p1 * p2)) ≤ 0 then if 0 ≤ ((p0 * p3) - (p1 * p2)) then some (0, σ) else some ((-1), σ) else some (1, σ)
set_option maxHeartbeats 4000000 in
set_option maxRecDepth 100000 in
theorem c_Ground_handOf {l : Launch} {g : EG} {ad ta : Nat → Nat} {Rr : va_W} {σ σ' : CS} {r : Int32} {p0 : Int32} {p1 : Int32} {p2 : Int32} {p3 : Int32}  (h : f_Ground_handOf p0 p1 p2 p3 σ = some (r, σ')) (hφ2 : ph σ.2.2 ≤ BB) : CtI l g yX2_handOf (.code yX2_handOf cX2_handOf 5 (some .int)) 0 0 ad ta Rr σ [.int p0, .int p1, .int p2, .int p3] r σ' := by
  refine Ct.of rfl (by decide) (Nat.le_of_ble_eq_true rfl) ?_
  intro p e s m args below meth c A C hr
  have hφ : ph σ.2.2 ≤ ph σ.2.2 := Nat.le_refl _
  refine nw_zero (ph σ.2.2) ?_
  show NI g p l e s m args below meth c A 0 0 5 ad Rr (ph σ.2.2) (r, σ') ta σ [(0, .int p0), (1, .int p1), (2, .int p2), (3, .int p3)] 0 []
  unfold f_Ground_handOf at h
  refine nw_iload_n C dX2_handOf_0 rfl 0 rfl ?_
  refine nw_iload_n C dX2_handOf_1 rfl 3 rfl ?_
  refine nw_imul C dX2_handOf_2 ?_
  refine nw_iload_n C dX2_handOf_3 rfl 1 rfl ?_
  refine nw_iload_n C dX2_handOf_4 rfl 2 rfl ?_
  refine nw_imul C dX2_handOf_5 ?_
  refine nw_isub C dX2_handOf_6 ?_
  refine nw_istore (lv' := [(4, .int ((p0 * p3) - (p1 * p2))), (0, .int p0), (1, .int p1), (2, .int p2), (3, .int p3)]) C dX2_handOf_7 (by decide) rfl ?_
  refine nw_iload C dX2_handOf_9 0 rfl ?_
  refine nw_if_le (tgt := 18) C dX2_handOf_11 (by decide) h (fun _ h => ?_) (fun _ h => ?_)
  · refine nw_iload C dX2_handOf_18 0 rfl ?_
    refine nw_if_ge (tgt := 27) C dX2_handOf_20 (by decide) h (fun _ h => ?_) (fun _ h => ?_)
    · refine nw_iconst (v := 0) C dX2_handOf_27 (by decide) ?_
      exact nc_iret C hr dX2_handOf_28 hφ hφ2 h
    · refine nw_iconst (v := (-1)) C dX2_handOf_23 (by decide) ?_
      refine nw_goto (tgt := 28) C dX2_handOf_24 (by decide) ?_
      exact nc_iret C hr dX2_handOf_28 hφ hφ2 h
  · refine nw_iconst (v := 1) C dX2_handOf_14 (by decide) ?_
    refine nw_goto (tgt := 28) C dX2_handOf_15 (by decide) ?_
    exact nc_iret C hr dX2_handOf_28 hφ hφ2 h
theorem dX2_isLeftOf_0 : decode cX2_isLeftOf 0 = .ok (.aload_n 0, 1) := by decide +kernel
theorem dX2_isLeftOf_1 : decode cX2_isLeftOf 1 = .ok (.getfield 16, 3) := by decide +kernel
theorem dX2_isLeftOf_4 : decode cX2_isLeftOf 4 = .ok (.iload_n 1, 1) := by decide +kernel
theorem dX2_isLeftOf_5 : decode cX2_isLeftOf 5 = .ok (.iconst 1, 1) := by decide +kernel
theorem dX2_isLeftOf_6 : decode cX2_isLeftOf 6 = .ok (.invokevirtual 31, 3) := by decide +kernel
theorem dX2_isLeftOf_9 : decode cX2_isLeftOf 9 = .ok (.istore 5, 2) := by decide +kernel
theorem dX2_isLeftOf_11 : decode cX2_isLeftOf 11 = .ok (.aload_n 0, 1) := by decide +kernel
theorem dX2_isLeftOf_12 : decode cX2_isLeftOf 12 = .ok (.getfield 16, 3) := by decide +kernel
theorem dX2_isLeftOf_15 : decode cX2_isLeftOf 15 = .ok (.iload_n 1, 1) := by decide +kernel
theorem dX2_isLeftOf_16 : decode cX2_isLeftOf 16 = .ok (.iconst 2, 1) := by decide +kernel
theorem dX2_isLeftOf_17 : decode cX2_isLeftOf 17 = .ok (.invokevirtual 31, 3) := by decide +kernel
theorem dX2_isLeftOf_20 : decode cX2_isLeftOf 20 = .ok (.istore 6, 2) := by decide +kernel
theorem dX2_isLeftOf_22 : decode cX2_isLeftOf 22 = .ok (.aload_n 0, 1) := by decide +kernel
theorem dX2_isLeftOf_23 : decode cX2_isLeftOf 23 = .ok (.getfield 16, 3) := by decide +kernel
theorem dX2_isLeftOf_26 : decode cX2_isLeftOf 26 = .ok (.iload_n 2, 1) := by decide +kernel
theorem dX2_isLeftOf_27 : decode cX2_isLeftOf 27 = .ok (.iconst 2, 1) := by decide +kernel
theorem dX2_isLeftOf_28 : decode cX2_isLeftOf 28 = .ok (.invokevirtual 31, 3) := by decide +kernel
theorem dX2_isLeftOf_31 : decode cX2_isLeftOf 31 = .ok (.istore 7, 2) := by decide +kernel
theorem dX2_isLeftOf_33 : decode cX2_isLeftOf 33 = .ok (.aload_n 0, 1) := by decide +kernel
theorem dX2_isLeftOf_34 : decode cX2_isLeftOf 34 = .ok (.getfield 16, 3) := by decide +kernel
theorem dX2_isLeftOf_37 : decode cX2_isLeftOf 37 = .ok (.iload_n 2, 1) := by decide +kernel
theorem dX2_isLeftOf_38 : decode cX2_isLeftOf 38 = .ok (.iconst 1, 1) := by decide +kernel
theorem dX2_isLeftOf_39 : decode cX2_isLeftOf 39 = .ok (.invokevirtual 31, 3) := by decide +kernel
theorem dX2_isLeftOf_42 : decode cX2_isLeftOf 42 = .ok (.iload 5, 2) := by decide +kernel
theorem dX2_isLeftOf_44 : decode cX2_isLeftOf 44 = .ok (.isub, 1) := by decide +kernel
theorem dX2_isLeftOf_45 : decode cX2_isLeftOf 45 = .ok (.iload 7, 2) := by decide +kernel
theorem dX2_isLeftOf_47 : decode cX2_isLeftOf 47 = .ok (.iload 6, 2) := by decide +kernel
theorem dX2_isLeftOf_49 : decode cX2_isLeftOf 49 = .ok (.isub, 1) := by decide +kernel
theorem dX2_isLeftOf_50 : decode cX2_isLeftOf 50 = .ok (.iload_n 3, 1) := by decide +kernel
theorem dX2_isLeftOf_51 : decode cX2_isLeftOf 51 = .ok (.iload 5, 2) := by decide +kernel
theorem dX2_isLeftOf_53 : decode cX2_isLeftOf 53 = .ok (.isub, 1) := by decide +kernel
theorem dX2_isLeftOf_54 : decode cX2_isLeftOf 54 = .ok (.iload 4, 2) := by decide +kernel
theorem dX2_isLeftOf_56 : decode cX2_isLeftOf 56 = .ok (.iload 6, 2) := by decide +kernel
theorem dX2_isLeftOf_58 : decode cX2_isLeftOf 58 = .ok (.isub, 1) := by decide +kernel
theorem dX2_isLeftOf_59 : decode cX2_isLeftOf 59 = .ok (.invokestatic 87, 3) := by decide +kernel
theorem dX2_isLeftOf_62 : decode cX2_isLeftOf 62 = .ok (.istore 8, 2) := by decide +kernel
theorem dX2_isLeftOf_64 : decode cX2_isLeftOf 64 = .ok (.iload 6, 2) := by decide +kernel
theorem dX2_isLeftOf_66 : decode cX2_isLeftOf 66 = .ok (.iload 4, 2) := by decide +kernel
theorem dX2_isLeftOf_68 : decode cX2_isLeftOf 68 = .ok (.if_icmp .gt 15, 3) := by decide +kernel
theorem dX2_isLeftOf_71 : decode cX2_isLeftOf 71 = .ok (.iload 7, 2) := by decide +kernel
theorem dX2_isLeftOf_73 : decode cX2_isLeftOf 73 = .ok (.iload 4, 2) := by decide +kernel
theorem dX2_isLeftOf_75 : decode cX2_isLeftOf 75 = .ok (.if_icmp .le 8, 3) := by decide +kernel
theorem dX2_isLeftOf_78 : decode cX2_isLeftOf 78 = .ok (.iload 8, 2) := by decide +kernel
theorem dX2_isLeftOf_80 : decode cX2_isLeftOf 80 = .ok (.ifCond .gt 22, 3) := by decide +kernel
theorem dX2_isLeftOf_83 : decode cX2_isLeftOf 83 = .ok (.iload 6, 2) := by decide +kernel
theorem dX2_isLeftOf_85 : decode cX2_isLeftOf 85 = .ok (.iload 4, 2) := by decide +kernel
theorem dX2_isLeftOf_87 : decode cX2_isLeftOf 87 = .ok (.if_icmp .le 19, 3) := by decide +kernel
theorem dX2_isLeftOf_90 : decode cX2_isLeftOf 90 = .ok (.iload 7, 2) := by decide +kernel
theorem dX2_isLeftOf_92 : decode cX2_isLeftOf 92 = .ok (.iload 4, 2) := by decide +kernel
theorem dX2_isLeftOf_94 : decode cX2_isLeftOf 94 = .ok (.if_icmp .gt 12, 3) := by decide +kernel
theorem dX2_isLeftOf_97 : decode cX2_isLeftOf 97 = .ok (.iload 8, 2) := by decide +kernel
theorem dX2_isLeftOf_99 : decode cX2_isLeftOf 99 = .ok (.ifCond .ge 7, 3) := by decide +kernel
theorem dX2_isLeftOf_102 : decode cX2_isLeftOf 102 = .ok (.iconst 1, 1) := by decide +kernel
theorem dX2_isLeftOf_103 : decode cX2_isLeftOf 103 = .ok (.goto 4, 3) := by decide +kernel
theorem dX2_isLeftOf_106 : decode cX2_isLeftOf 106 = .ok (.iconst 0, 1) := by decide +kernel
theorem dX2_isLeftOf_107 : decode cX2_isLeftOf 107 = .ok (.ireturn, 1) := by decide +kernel
def B_Ground_isLeftOf_83   (x4 : Int32) (x6 : Int32) (x7 : Int32) (x8 : Int32) (σ : CS) : Option (Int32 × CS) := if x6 ≤ x4 then some (0, σ) else if x4 < x7 then some (0, σ) else if 0 ≤ x8 then some (0, σ) else some (1, σ)
set_option maxHeartbeats 4000000 in
set_option maxRecDepth 100000 in
theorem w_Ground_isLeftOf_83 (C : Cx g p s m args meth c A 9 cX2_isLeftOf yX2_isLeftOf.cls) (hr : meth.sig.returnType = (some .boolean))  {res : Int32 × CS}   (x4 : Int32) (x6 : Int32) (x7 : Int32) (x8 : Int32)  (σ : CS) (ta : Nat → Nat) (hφ : φ0 ≤ ph σ.2.2) (hφ2 : ph σ.2.2 ≤ BB) (h : B_Ground_isLeftOf_83 x4 x6 x7 x8 σ = some res) : NI g p l e s m args below meth c A 1 24 9 ad Rr φ0 res ta σ [(4, .int x4), (6, .int x6), (7, .int x7), (8, .int x8)] 83 [] := by
  unfold B_Ground_isLeftOf_83 at h
  refine nw_iload C dX2_isLeftOf_83 1 rfl ?_
  refine nw_iload C dX2_isLeftOf_85 0 rfl ?_
  refine nw_icmp_le (tgt := 106) C dX2_isLeftOf_87 (by decide) h (fun _ h => ?_) (fun _ h => ?_)
  · refine nw_iconst (v := 0) C dX2_isLeftOf_106 (by decide) ?_
    exact nc_zret C hr (Or.inl rfl) dX2_isLeftOf_107 hφ hφ2 h
  · refine nw_iload C dX2_isLeftOf_90 2 rfl ?_
    refine nw_iload C dX2_isLeftOf_92 0 rfl ?_
    refine nw_icmp_gt (tgt := 106) C dX2_isLeftOf_94 (by decide) h (fun _ h => ?_) (fun _ h => ?_)
    · refine nw_iconst (v := 0) C dX2_isLeftOf_106 (by decide) ?_
      exact nc_zret C hr (Or.inl rfl) dX2_isLeftOf_107 hφ hφ2 h
    · refine nw_iload C dX2_isLeftOf_97 3 rfl ?_
      refine nw_if_ge (tgt := 106) C dX2_isLeftOf_99 (by decide) h (fun _ h => ?_) (fun _ h => ?_)
      · refine nw_iconst (v := 0) C dX2_isLeftOf_106 (by decide) ?_
        exact nc_zret C hr (Or.inl rfl) dX2_isLeftOf_107 hφ hφ2 h
      · refine nw_iconst (v := 1) C dX2_isLeftOf_102 (by decide) ?_
        refine nw_goto (tgt := 107) C dX2_isLeftOf_103 (by decide) ?_
        exact nc_zret C hr (Or.inr rfl) dX2_isLeftOf_107 hφ hφ2 h
def f_Ground_isLeftOf (p0 : Int32) (p1 : Int32) (p2 : Int32) (p3 : Int32) (σ : CS) : Option (Int32 × CS) := bnd (f_Table_get 1 p0 1 σ) (fun r6 σ6 => bnd (f_Table_get 1 p0 2 σ6) (fun r17 σ17 => bnd (f_Table_get 1 p1 2 σ17) (fun r28 σ28 => bnd (f_Table_get 1 p1 1 σ28) (fun r39 σ39 => bnd (f_Ground_handOf (r39 - r6) (r28 - r17) (p2 - r6) (p3 - r17) σ39) (fun r59 σ59 => if p3 < r17 then B_Ground_isLeftOf_83 p3 r17 r28 r59 σ59 else if r28 ≤ p3 then B_Ground_isLeftOf_83 p3 r17 r28 r59 σ59 else if 0 < r59 then some (1, σ59) else B_Ground_isLeftOf_83 p3 r17 r28 r59 σ59)))))
set_option maxHeartbeats 4000000 in
set_option maxRecDepth 100000 in
theorem c_Ground_isLeftOf {l : Launch} {g : EG} {ad ta : Nat → Nat} {Rr : va_W} {σ σ' : CS} {r : Int32} {p0 : Int32} {p1 : Int32} {p2 : Int32} {p3 : Int32}  (h : f_Ground_isLeftOf p0 p1 p2 p3 σ = some (r, σ')) (hφ2 : ph σ.2.2 ≤ BB) : CtI l g yX2_isLeftOf (.code yX2_isLeftOf cX2_isLeftOf 9 (some .boolean)) 1 24 ad ta Rr σ [.ref (ad 1), .int p0, .int p1, .int p2, .int p3] r σ' := by
  refine Ct.of rfl (by decide) (Nat.le_of_ble_eq_true rfl) ?_
  intro p e s m args below meth c A C hr
  have hφ : ph σ.2.2 ≤ ph σ.2.2 := Nat.le_refl _
  refine nw_zero (ph σ.2.2) ?_
  show NI g p l e s m args below meth c A 1 24 9 ad Rr (ph σ.2.2) (r, σ') ta σ [(0, .ref (ad 1)), (1, .int p0), (2, .int p1), (3, .int p2), (4, .int p3)] 0 []
  unfold f_Ground_isLeftOf at h
  refine nw_aload_n C dX2_isLeftOf_0 rfl 0 rfl ?_
  refine nw_get (v := .ref (ad 12)) C in_X2 1 cl_Ground rfl 0 (by decide) tw_189 rfl rfl dX2_isLeftOf_1 ?_
  refine nw_iload_n C dX2_isLeftOf_4 rfl 1 rfl ?_
  refine nw_iconst (v := 1) C dX2_isLeftOf_5 (by decide) ?_
  refine nc_callVI (q0 := 12) (As := [.int p0, .int 1]) (rest := []) C h (fun _ _ e => c_Table_get 1 (by decide) e hφ2) tw_841 kv_X9_get (cl_T 1 (by decide)) rfl ⟨Nat.le_of_ble_eq_true rfl, Nat.le_of_ble_eq_true rfl⟩ rfl dX2_isLeftOf_6 rfl (Nat.le_of_ble_eq_true rfl) hφ hφ2 (fun r6 σ6 ta h hφ hφ2 => ?_)
  refine nw_istore (lv' := [(5, .int r6), (0, .ref (ad 1)), (1, .int p0), (2, .int p1), (3, .int p2), (4, .int p3)]) C dX2_isLeftOf_9 (by decide) rfl ?_
  refine nw_aload_n C dX2_isLeftOf_11 rfl 1 rfl ?_
  refine nw_get (v := .ref (ad 12)) C in_X2 1 cl_Ground rfl 0 (by decide) tw_189 rfl rfl dX2_isLeftOf_12 ?_
  refine nw_iload_n C dX2_isLeftOf_15 rfl 2 rfl ?_
  refine nw_iconst (v := 2) C dX2_isLeftOf_16 (by decide) ?_
  refine nc_callVI (q0 := 12) (As := [.int p0, .int 2]) (rest := []) C h (fun _ _ e => c_Table_get 1 (by decide) e hφ2) tw_841 kv_X9_get (cl_T 1 (by decide)) rfl ⟨Nat.le_of_ble_eq_true rfl, Nat.le_of_ble_eq_true rfl⟩ rfl dX2_isLeftOf_17 rfl (Nat.le_of_ble_eq_true rfl) hφ hφ2 (fun r17 σ17 ta h hφ hφ2 => ?_)
  refine nw_istore (lv' := [(6, .int r17), (5, .int r6), (0, .ref (ad 1)), (1, .int p0), (2, .int p1), (3, .int p2), (4, .int p3)]) C dX2_isLeftOf_20 (by decide) rfl ?_
  refine nw_aload_n C dX2_isLeftOf_22 rfl 2 rfl ?_
  refine nw_get (v := .ref (ad 12)) C in_X2 1 cl_Ground rfl 0 (by decide) tw_189 rfl rfl dX2_isLeftOf_23 ?_
  refine nw_iload_n C dX2_isLeftOf_26 rfl 4 rfl ?_
  refine nw_iconst (v := 2) C dX2_isLeftOf_27 (by decide) ?_
  refine nc_callVI (q0 := 12) (As := [.int p1, .int 2]) (rest := []) C h (fun _ _ e => c_Table_get 1 (by decide) e hφ2) tw_841 kv_X9_get (cl_T 1 (by decide)) rfl ⟨Nat.le_of_ble_eq_true rfl, Nat.le_of_ble_eq_true rfl⟩ rfl dX2_isLeftOf_28 rfl (Nat.le_of_ble_eq_true rfl) hφ hφ2 (fun r28 σ28 ta h hφ hφ2 => ?_)
  refine nw_istore (lv' := [(7, .int r28), (6, .int r17), (5, .int r6), (0, .ref (ad 1)), (1, .int p0), (2, .int p1), (3, .int p2), (4, .int p3)]) C dX2_isLeftOf_31 (by decide) rfl ?_
  refine nw_aload_n C dX2_isLeftOf_33 rfl 3 rfl ?_
  refine nw_get (v := .ref (ad 12)) C in_X2 1 cl_Ground rfl 0 (by decide) tw_189 rfl rfl dX2_isLeftOf_34 ?_
  refine nw_iload_n C dX2_isLeftOf_37 rfl 5 rfl ?_
  refine nw_iconst (v := 1) C dX2_isLeftOf_38 (by decide) ?_
  refine nc_callVI (q0 := 12) (As := [.int p1, .int 1]) (rest := []) C h (fun _ _ e => c_Table_get 1 (by decide) e hφ2) tw_841 kv_X9_get (cl_T 1 (by decide)) rfl ⟨Nat.le_of_ble_eq_true rfl, Nat.le_of_ble_eq_true rfl⟩ rfl dX2_isLeftOf_39 rfl (Nat.le_of_ble_eq_true rfl) hφ hφ2 (fun r39 σ39 ta h hφ hφ2 => ?_)
  refine nw_iload C dX2_isLeftOf_42 2 rfl ?_
  refine nw_isub C dX2_isLeftOf_44 ?_
  refine nw_iload C dX2_isLeftOf_45 0 rfl ?_
  refine nw_iload C dX2_isLeftOf_47 1 rfl ?_
  refine nw_isub C dX2_isLeftOf_49 ?_
  refine nw_iload_n C dX2_isLeftOf_50 rfl 6 rfl ?_
  refine nw_iload C dX2_isLeftOf_51 2 rfl ?_
  refine nw_isub C dX2_isLeftOf_53 ?_
  refine nw_iload C dX2_isLeftOf_54 7 rfl ?_
  refine nw_iload C dX2_isLeftOf_56 1 rfl ?_
  refine nw_isub C dX2_isLeftOf_58 ?_
  refine nc_callSI  (As := [.int (r39 - r6), .int (r28 - r17), .int (p2 - r6), .int (p3 - r17)]) (rest := []) C h (fun _ _ e => c_Ground_handOf e hφ2) tw_850 ks_X2_handOf ⟨Nat.le_of_ble_eq_true rfl, Nat.le_of_ble_eq_true rfl⟩ rfl dX2_isLeftOf_59 rfl (Nat.le_of_ble_eq_true rfl) hφ hφ2 (fun r59 σ59 ta h hφ hφ2 => ?_)
  refine nw_istore (lv' := [(8, .int r59), (7, .int r28), (6, .int r17), (5, .int r6), (0, .ref (ad 1)), (1, .int p0), (2, .int p1), (3, .int p2), (4, .int p3)]) C dX2_isLeftOf_62 (by decide) rfl ?_
  refine nw_iload C dX2_isLeftOf_64 2 rfl ?_
  refine nw_iload C dX2_isLeftOf_66 8 rfl ?_
  refine nw_icmp_gt (tgt := 83) C dX2_isLeftOf_68 (by decide) h (fun _ h => ?_) (fun _ h => ?_)
  · exact nw_lv (lv' := [(4, .int p3), (6, .int r17), (7, .int r28), (8, .int r59)]) [8, 2, 1, 0] rfl (w_Ground_isLeftOf_83 C hr p3 r17 r28 r59 _ _ hφ hφ2 h)
  · refine nw_iload C dX2_isLeftOf_71 1 rfl ?_
    refine nw_iload C dX2_isLeftOf_73 8 rfl ?_
    refine nw_icmp_le (tgt := 83) C dX2_isLeftOf_75 (by decide) h (fun _ h => ?_) (fun _ h => ?_)
    · exact nw_lv (lv' := [(4, .int p3), (6, .int r17), (7, .int r28), (8, .int r59)]) [8, 2, 1, 0] rfl (w_Ground_isLeftOf_83 C hr p3 r17 r28 r59 _ _ hφ hφ2 h)
    · refine nw_iload C dX2_isLeftOf_78 0 rfl ?_
      refine nw_if_gt (tgt := 102) C dX2_isLeftOf_80 (by decide) h (fun _ h => ?_) (fun _ h => ?_)
      · refine nw_iconst (v := 1) C dX2_isLeftOf_102 (by decide) ?_
        refine nw_goto (tgt := 107) C dX2_isLeftOf_103 (by decide) ?_
        exact nc_zret C hr (Or.inr rfl) dX2_isLeftOf_107 hφ hφ2 h
      · exact nw_lv (lv' := [(4, .int p3), (6, .int r17), (7, .int r28), (8, .int r59)]) [8, 2, 1, 0] rfl (w_Ground_isLeftOf_83 C hr p3 r17 r28 r59 _ _ hφ hφ2 h)
theorem dX2_placeOn_0 : decode cX2_placeOn 0 = .ok (.aload_n 0, 1) := by decide +kernel
theorem dX2_placeOn_1 : decode cX2_placeOn 1 = .ok (.iload_n 1, 1) := by decide +kernel
theorem dX2_placeOn_2 : decode cX2_placeOn 2 = .ok (.invokevirtual 94, 3) := by decide +kernel
theorem dX2_placeOn_5 : decode cX2_placeOn 5 = .ok (.istore 4, 2) := by decide +kernel
theorem dX2_placeOn_7 : decode cX2_placeOn 7 = .ok (.iload 4, 2) := by decide +kernel
theorem dX2_placeOn_9 : decode cX2_placeOn 9 = .ok (.iconst (-1), 1) := by decide +kernel
theorem dX2_placeOn_10 : decode cX2_placeOn 10 = .ok (.if_icmp .ne 5, 3) := by decide +kernel
theorem dX2_placeOn_13 : decode cX2_placeOn 13 = .ok (.iconst 0, 1) := by decide +kernel
theorem dX2_placeOn_14 : decode cX2_placeOn 14 = .ok (.ireturn, 1) := by decide +kernel
theorem dX2_placeOn_15 : decode cX2_placeOn 15 = .ok (.aload_n 0, 1) := by decide +kernel
theorem dX2_placeOn_16 : decode cX2_placeOn 16 = .ok (.getfield 20, 3) := by decide +kernel
theorem dX2_placeOn_19 : decode cX2_placeOn 19 = .ok (.iload 4, 2) := by decide +kernel
theorem dX2_placeOn_21 : decode cX2_placeOn 21 = .ok (.iconst 2, 1) := by decide +kernel
theorem dX2_placeOn_22 : decode cX2_placeOn 22 = .ok (.invokevirtual 31, 3) := by decide +kernel
theorem dX2_placeOn_25 : decode cX2_placeOn 25 = .ok (.istore 5, 2) := by decide +kernel
theorem dX2_placeOn_27 : decode cX2_placeOn 27 = .ok (.iconst 0, 1) := by decide +kernel
theorem dX2_placeOn_28 : decode cX2_placeOn 28 = .ok (.istore 6, 2) := by decide +kernel
theorem dX2_placeOn_30 : decode cX2_placeOn 30 = .ok (.iconst 0, 1) := by decide +kernel
theorem dX2_placeOn_31 : decode cX2_placeOn 31 = .ok (.istore 7, 2) := by decide +kernel
theorem dX2_placeOn_33 : decode cX2_placeOn 33 = .ok (.iload 7, 2) := by decide +kernel
theorem dX2_placeOn_35 : decode cX2_placeOn 35 = .ok (.iload 5, 2) := by decide +kernel
theorem dX2_placeOn_37 : decode cX2_placeOn 37 = .ok (.if_icmp .ge 95, 3) := by decide +kernel
theorem dX2_placeOn_40 : decode cX2_placeOn 40 = .ok (.iload 7, 2) := by decide +kernel
theorem dX2_placeOn_42 : decode cX2_placeOn 42 = .ok (.bipush 10, 2) := by decide +kernel
theorem dX2_placeOn_44 : decode cX2_placeOn 44 = .ok (.if_icmp .ge 88, 3) := by decide +kernel
theorem dX2_placeOn_47 : decode cX2_placeOn 47 = .ok (.aload_n 0, 1) := by decide +kernel
theorem dX2_placeOn_48 : decode cX2_placeOn 48 = .ok (.getfield 20, 3) := by decide +kernel
theorem dX2_placeOn_51 : decode cX2_placeOn 51 = .ok (.iload 4, 2) := by decide +kernel
theorem dX2_placeOn_53 : decode cX2_placeOn 53 = .ok (.iconst 3, 1) := by decide +kernel
theorem dX2_placeOn_54 : decode cX2_placeOn 54 = .ok (.iload 7, 2) := by decide +kernel
theorem dX2_placeOn_56 : decode cX2_placeOn 56 = .ok (.iadd, 1) := by decide +kernel
theorem dX2_placeOn_57 : decode cX2_placeOn 57 = .ok (.invokevirtual 31, 3) := by decide +kernel
theorem dX2_placeOn_60 : decode cX2_placeOn 60 = .ok (.istore 8, 2) := by decide +kernel
theorem dX2_placeOn_62 : decode cX2_placeOn 62 = .ok (.aload_n 0, 1) := by decide +kernel
theorem dX2_placeOn_63 : decode cX2_placeOn 63 = .ok (.getfield 20, 3) := by decide +kernel
theorem dX2_placeOn_66 : decode cX2_placeOn 66 = .ok (.iload 4, 2) := by decide +kernel
theorem dX2_placeOn_68 : decode cX2_placeOn 68 = .ok (.iconst 3, 1) := by decide +kernel
theorem dX2_placeOn_69 : decode cX2_placeOn 69 = .ok (.iload 7, 2) := by decide +kernel
theorem dX2_placeOn_71 : decode cX2_placeOn 71 = .ok (.iconst 1, 1) := by decide +kernel
theorem dX2_placeOn_72 : decode cX2_placeOn 72 = .ok (.iadd, 1) := by decide +kernel
theorem dX2_placeOn_73 : decode cX2_placeOn 73 = .ok (.iload 5, 2) := by decide +kernel
theorem dX2_placeOn_75 : decode cX2_placeOn 75 = .ok (.if_icmp .ge 10, 3) := by decide +kernel
theorem dX2_placeOn_78 : decode cX2_placeOn 78 = .ok (.iload 7, 2) := by decide +kernel
theorem dX2_placeOn_80 : decode cX2_placeOn 80 = .ok (.iconst 1, 1) := by decide +kernel
theorem dX2_placeOn_81 : decode cX2_placeOn 81 = .ok (.iadd, 1) := by decide +kernel
theorem dX2_placeOn_82 : decode cX2_placeOn 82 = .ok (.goto 4, 3) := by decide +kernel
theorem dX2_placeOn_85 : decode cX2_placeOn 85 = .ok (.iconst 0, 1) := by decide +kernel
theorem dX2_placeOn_86 : decode cX2_placeOn 86 = .ok (.iadd, 1) := by decide +kernel
theorem dX2_placeOn_87 : decode cX2_placeOn 87 = .ok (.invokevirtual 31, 3) := by decide +kernel
theorem dX2_placeOn_90 : decode cX2_placeOn 90 = .ok (.istore 9, 2) := by decide +kernel
theorem dX2_placeOn_92 : decode cX2_placeOn 92 = .ok (.aload_n 0, 1) := by decide +kernel
theorem dX2_placeOn_93 : decode cX2_placeOn 93 = .ok (.iload 8, 2) := by decide +kernel
theorem dX2_placeOn_95 : decode cX2_placeOn 95 = .ok (.iload 9, 2) := by decide +kernel
theorem dX2_placeOn_97 : decode cX2_placeOn 97 = .ok (.iload_n 2, 1) := by decide +kernel
theorem dX2_placeOn_98 : decode cX2_placeOn 98 = .ok (.iload_n 3, 1) := by decide +kernel
theorem dX2_placeOn_99 : decode cX2_placeOn 99 = .ok (.invokevirtual 98, 3) := by decide +kernel
theorem dX2_placeOn_102 : decode cX2_placeOn 102 = .ok (.ifCond .eq 5, 3) := by decide +kernel
theorem dX2_placeOn_105 : decode cX2_placeOn 105 = .ok (.iconst 2, 1) := by decide +kernel
theorem dX2_placeOn_106 : decode cX2_placeOn 106 = .ok (.ireturn, 1) := by decide +kernel
theorem dX2_placeOn_107 : decode cX2_placeOn 107 = .ok (.aload_n 0, 1) := by decide +kernel
theorem dX2_placeOn_108 : decode cX2_placeOn 108 = .ok (.iload 8, 2) := by decide +kernel
theorem dX2_placeOn_110 : decode cX2_placeOn 110 = .ok (.iload 9, 2) := by decide +kernel
theorem dX2_placeOn_112 : decode cX2_placeOn 112 = .ok (.iload_n 2, 1) := by decide +kernel
theorem dX2_placeOn_113 : decode cX2_placeOn 113 = .ok (.iload_n 3, 1) := by decide +kernel
theorem dX2_placeOn_114 : decode cX2_placeOn 114 = .ok (.invokevirtual 101, 3) := by decide +kernel
theorem dX2_placeOn_117 : decode cX2_placeOn 117 = .ok (.ifCond .eq 9, 3) := by decide +kernel
theorem dX2_placeOn_120 : decode cX2_placeOn 120 = .ok (.iconst 1, 1) := by decide +kernel
theorem dX2_placeOn_121 : decode cX2_placeOn 121 = .ok (.iload 6, 2) := by decide +kernel
theorem dX2_placeOn_123 : decode cX2_placeOn 123 = .ok (.isub, 1) := by decide +kernel
theorem dX2_placeOn_124 : decode cX2_placeOn 124 = .ok (.istore 6, 2) := by decide +kernel
theorem dX2_placeOn_126 : decode cX2_placeOn 126 = .ok (.iinc 7 1, 3) := by decide +kernel
theorem dX2_placeOn_129 : decode cX2_placeOn 129 = .ok (.goto (-96), 3) := by decide +kernel
theorem dX2_placeOn_132 : decode cX2_placeOn 132 = .ok (.iload 6, 2) := by decide +kernel
theorem dX2_placeOn_134 : decode cX2_placeOn 134 = .ok (.ireturn, 1) := by decide +kernel
def B_Ground_placeOn_86 (k33 : Int32 → Int32 → CS → Option (Int32 × CS)) (x2 : Int32) (x3 : Int32) (x4 : Int32) (x5 : Int32) (x6 : Int32) (x7 : Int32) (x8 : Int32) (z1 : Int32) (z2 : Int32) (z3 : Int32) (σ : CS) : Option (Int32 × CS) := bnd (f_Table_get 2 z1 (z2 + z3) σ) (fun r87 σ87 => bnd (f_Ground_isNear x8 r87 x2 x3 σ87) (fun r99 σ99 => if r99 = 0 then bnd (f_Ground_isLeftOf x8 r87 x2 x3 σ99) (fun r114 σ114 => if r114 = 0 then k33 x6 (x7 + 1) σ114 else k33 (1 - x6) (x7 + 1) σ114) else some (2, σ99)))
set_option maxHeartbeats 4000000 in
set_option maxRecDepth 100000 in
theorem w_Ground_placeOn_86 (C : Cx g p s m args meth c A 10 cX2_placeOn yX2_placeOn.cls) (hr : meth.sig.returnType = (some .int))  {res : Int32 × CS}  (x2 : Int32) (x3 : Int32) (x4 : Int32) (x5 : Int32) (x6 : Int32) (x7 : Int32) (x8 : Int32) (z1 : Int32) (z2 : Int32) (z3 : Int32) {k33 : Int32 → Int32 → CS → Option (Int32 × CS)} (hk33 : ∀ (x6 : Int32) (x7 : Int32) (σ : CS) (ta : Nat → Nat), φ0 ≤ ph σ.2.2 → ph σ.2.2 ≤ BB → k33 x6 x7 σ = some res → NI g p l e s m args below meth c A 2 63 10 ad Rr φ0 res ta σ [(0, .ref (ad 1)), (2, .int x2), (3, .int x3), (4, .int x4), (5, .int x5), (6, .int x6), (7, .int x7)] 33 []) (σ : CS) (ta : Nat → Nat) (hφ : φ0 ≤ ph σ.2.2) (hφ2 : ph σ.2.2 ≤ BB) (h : B_Ground_placeOn_86 k33 x2 x3 x4 x5 x6 x7 x8 z1 z2 z3 σ = some res) : NI g p l e s m args below meth c A 2 63 10 ad Rr φ0 res ta σ [(0, .ref (ad 1)), (2, .int x2), (3, .int x3), (4, .int x4), (5, .int x5), (6, .int x6), (7, .int x7), (8, .int x8)] 86 [.int z3, .int z2, .int z1, .ref (ad 13)] := by
  unfold B_Ground_placeOn_86 at h
  refine nw_iadd C dX2_placeOn_86 ?_
  refine nc_callVI (q0 := 13) (As := [.int z1, .int (z2 + z3)]) (rest := []) C h (fun _ _ e => c_Table_get 2 (by decide) e hφ2) tw_841 kv_X9_get (cl_T 2 (by decide)) rfl ⟨Nat.le_of_ble_eq_true rfl, Nat.le_of_ble_eq_true rfl⟩ rfl dX2_placeOn_87 rfl (Nat.le_of_ble_eq_true rfl) hφ hφ2 (fun r87 σ87 ta h hφ hφ2 => ?_)
  refine nw_istore (lv' := [(9, .int r87), (0, .ref (ad 1)), (2, .int x2), (3, .int x3), (4, .int x4), (5, .int x5), (6, .int x6), (7, .int x7), (8, .int x8)]) C dX2_placeOn_90 (by decide) rfl ?_
  refine nw_aload_n C dX2_placeOn_92 rfl 1 rfl ?_
  refine nw_iload C dX2_placeOn_93 8 rfl ?_
  refine nw_iload C dX2_placeOn_95 0 rfl ?_
  refine nw_iload_n C dX2_placeOn_97 rfl 2 rfl ?_
  refine nw_iload_n C dX2_placeOn_98 rfl 3 rfl ?_
  refine nc_callVI (q0 := 1) (As := [.int x8, .int r87, .int x2, .int x3]) (rest := []) C h (fun _ _ e => c_Ground_isNear e hφ2) tw_842 kv_X2_isNear cl_Ground rfl ⟨Nat.le_of_ble_eq_true rfl, Nat.le_of_ble_eq_true rfl⟩ rfl dX2_placeOn_99 rfl (Nat.le_of_ble_eq_true rfl) hφ hφ2 (fun r99 σ99 ta h hφ hφ2 => ?_)
  refine nw_if_eq (tgt := 107) C dX2_placeOn_102 (by decide) h (fun _ h => ?_) (fun _ h => ?_)
  · refine nw_aload_n C dX2_placeOn_107 rfl 1 rfl ?_
    refine nw_iload C dX2_placeOn_108 8 rfl ?_
    refine nw_iload C dX2_placeOn_110 0 rfl ?_
    refine nw_iload_n C dX2_placeOn_112 rfl 2 rfl ?_
    refine nw_iload_n C dX2_placeOn_113 rfl 3 rfl ?_
    refine nc_callVI (q0 := 1) (As := [.int x8, .int r87, .int x2, .int x3]) (rest := []) C h (fun _ _ e => c_Ground_isLeftOf e hφ2) tw_846 kv_X2_isLeftOf cl_Ground rfl ⟨Nat.le_of_ble_eq_true rfl, Nat.le_of_ble_eq_true rfl⟩ rfl dX2_placeOn_114 rfl (Nat.le_of_ble_eq_true rfl) hφ hφ2 (fun r114 σ114 ta h hφ hφ2 => ?_)
    refine nw_if_eq (tgt := 126) C dX2_placeOn_117 (by decide) h (fun _ h => ?_) (fun _ h => ?_)
    · refine nw_iinc (lv' := [(7, .int (x7 + 1)), (9, .int r87), (0, .ref (ad 1)), (2, .int x2), (3, .int x3), (4, .int x4), (5, .int x5), (6, .int x6), (8, .int x8)]) C (x7 + 1) dX2_placeOn_126 7 rfl rfl (by decide) rfl ?_
      refine nw_goto (tgt := 33) C dX2_placeOn_129 (by decide) ?_
      exact nw_lv (lv' := [(0, .ref (ad 1)), (2, .int x2), (3, .int x3), (4, .int x4), (5, .int x5), (6, .int x6), (7, .int (x7 + 1))]) [2, 3, 4, 5, 6, 7, 0] rfl (hk33 x6 (x7 + 1) _ _ hφ hφ2 h)
    · refine nw_iconst (v := 1) C dX2_placeOn_120 (by decide) ?_
      refine nw_iload C dX2_placeOn_121 6 rfl ?_
      refine nw_isub C dX2_placeOn_123 ?_
      refine nw_istore (lv' := [(6, .int (1 - x6)), (9, .int r87), (0, .ref (ad 1)), (2, .int x2), (3, .int x3), (4, .int x4), (5, .int x5), (7, .int x7), (8, .int x8)]) C dX2_placeOn_124 (by decide) rfl ?_
      refine nw_iinc (lv' := [(7, .int (x7 + 1)), (6, .int (1 - x6)), (9, .int r87), (0, .ref (ad 1)), (2, .int x2), (3, .int x3), (4, .int x4), (5, .int x5), (8, .int x8)]) C (x7 + 1) dX2_placeOn_126 7 rfl rfl (by decide) rfl ?_
      refine nw_goto (tgt := 33) C dX2_placeOn_129 (by decide) ?_
      exact nw_lv (lv' := [(0, .ref (ad 1)), (2, .int x2), (3, .int x3), (4, .int x4), (5, .int x5), (6, .int (1 - x6)), (7, .int (x7 + 1))]) [3, 4, 5, 6, 7, 1, 0] rfl (hk33 (1 - x6) (x7 + 1) _ _ hφ hφ2 h)
  · refine nw_iconst (v := 2) C dX2_placeOn_105 (by decide) ?_
    exact nc_iret C hr dX2_placeOn_106 hφ hφ2 h
def L_Ground_placeOn_33  (x2 : Int32) (x3 : Int32) (x4 : Int32) (x5 : Int32) : Nat → Int32 → Int32 → CS → Option (Int32 × CS)
  | 0, _, _, _ => none
  | n + 1, x6, x7, σ => if x5 ≤ x7 then some (x6, σ) else if 10 ≤ x7 then some (x6, σ) else bnd (f_Table_get 2 x4 (3 + x7) σ) (fun r57 σ57 => if x5 ≤ (x7 + 1) then B_Ground_placeOn_86 (L_Ground_placeOn_33 x2 x3 x4 x5 n) x2 x3 x4 x5 x6 x7 r57 x4 3 0 σ57 else B_Ground_placeOn_86 (L_Ground_placeOn_33 x2 x3 x4 x5 n) x2 x3 x4 x5 x6 x7 r57 x4 3 (x7 + 1) σ57)
set_option maxHeartbeats 4000000 in
set_option maxRecDepth 100000 in
theorem w_Ground_placeOn_33 (C : Cx g p s m args meth c A 10 cX2_placeOn yX2_placeOn.cls) (hr : meth.sig.returnType = (some .int))  {res : Int32 × CS}  (x2 : Int32) (x3 : Int32) (x4 : Int32) (x5 : Int32)  : ∀ (n : Nat) (x6 : Int32) (x7 : Int32) (σ : CS) (ta : Nat → Nat), φ0 ≤ ph σ.2.2 → ph σ.2.2 ≤ BB → L_Ground_placeOn_33 x2 x3 x4 x5 n x6 x7 σ = some res → NI g p l e s m args below meth c A 2 63 10 ad Rr φ0 res ta σ [(0, .ref (ad 1)), (2, .int x2), (3, .int x3), (4, .int x4), (5, .int x5), (6, .int x6), (7, .int x7)] 33 [] := by
  intro n
  induction n with
  | zero =>
    intro x6 x7 σ ta hφ hφ2 h
    exact absurd (show (none : Option (Int32 × CS)) = some res from h) (by intro h9; cases h9)
  | succ n ih =>
    intro x6 x7 σ ta hφ hφ2 h
    rw [L_Ground_placeOn_33] at h
    refine nw_iload C dX2_placeOn_33 6 rfl ?_
    refine nw_iload C dX2_placeOn_35 4 rfl ?_
    refine nw_icmp_ge (tgt := 132) C dX2_placeOn_37 (by decide) h (fun _ h => ?_) (fun _ h => ?_)
    · refine nw_iload C dX2_placeOn_132 5 rfl ?_
      exact nc_iret C hr dX2_placeOn_134 hφ hφ2 h
    · refine nw_iload C dX2_placeOn_40 6 rfl ?_
      refine nw_bipush (v := 10) C dX2_placeOn_42 (by decide) ?_
      refine nw_icmp_ge (tgt := 132) C dX2_placeOn_44 (by decide) h (fun _ h => ?_) (fun _ h => ?_)
      · refine nw_iload C dX2_placeOn_132 5 rfl ?_
        exact nc_iret C hr dX2_placeOn_134 hφ hφ2 h
      · refine nw_aload_n C dX2_placeOn_47 rfl 0 rfl ?_
        refine nw_get (v := .ref (ad 13)) C in_X2 1 cl_Ground rfl 1 (by decide) tw_192 rfl rfl dX2_placeOn_48 ?_
        refine nw_iload C dX2_placeOn_51 3 rfl ?_
        refine nw_iconst (v := 3) C dX2_placeOn_53 (by decide) ?_
        refine nw_iload C dX2_placeOn_54 6 rfl ?_
        refine nw_iadd C dX2_placeOn_56 ?_
        refine nc_callVI (q0 := 13) (As := [.int x4, .int (3 + x7)]) (rest := []) C h (fun _ _ e => c_Table_get 2 (by decide) e hφ2) tw_841 kv_X9_get (cl_T 2 (by decide)) rfl ⟨Nat.le_of_ble_eq_true rfl, Nat.le_of_ble_eq_true rfl⟩ rfl dX2_placeOn_57 rfl (Nat.le_of_ble_eq_true rfl) hφ hφ2 (fun r57 σ57 ta h hφ hφ2 => ?_)
        refine nw_istore (lv' := [(8, .int r57), (0, .ref (ad 1)), (2, .int x2), (3, .int x3), (4, .int x4), (5, .int x5), (6, .int x6), (7, .int x7)]) C dX2_placeOn_60 (by decide) rfl ?_
        refine nw_aload_n C dX2_placeOn_62 rfl 1 rfl ?_
        refine nw_get (v := .ref (ad 13)) C in_X2 1 cl_Ground rfl 1 (by decide) tw_192 rfl rfl dX2_placeOn_63 ?_
        refine nw_iload C dX2_placeOn_66 4 rfl ?_
        refine nw_iconst (v := 3) C dX2_placeOn_68 (by decide) ?_
        refine nw_iload C dX2_placeOn_69 7 rfl ?_
        refine nw_iconst (v := 1) C dX2_placeOn_71 (by decide) ?_
        refine nw_iadd C dX2_placeOn_72 ?_
        refine nw_iload C dX2_placeOn_73 5 rfl ?_
        refine nw_icmp_ge (tgt := 85) C dX2_placeOn_75 (by decide) h (fun _ h => ?_) (fun _ h => ?_)
        · refine nw_iconst (v := 0) C dX2_placeOn_85 (by decide) ?_
          exact nw_lv (lv' := [(0, .ref (ad 1)), (2, .int x2), (3, .int x3), (4, .int x4), (5, .int x5), (6, .int x6), (7, .int x7), (8, .int r57)]) [1, 2, 3, 4, 5, 6, 7, 0] rfl (w_Ground_placeOn_86 C hr x2 x3 x4 x5 x6 x7 r57 x4 3 0 ih _ _ hφ hφ2 h)
        · refine nw_iload C dX2_placeOn_78 7 rfl ?_
          refine nw_iconst (v := 1) C dX2_placeOn_80 (by decide) ?_
          refine nw_iadd C dX2_placeOn_81 ?_
          refine nw_goto (tgt := 86) C dX2_placeOn_82 (by decide) ?_
          exact nw_lv (lv' := [(0, .ref (ad 1)), (2, .int x2), (3, .int x3), (4, .int x4), (5, .int x5), (6, .int x6), (7, .int x7), (8, .int r57)]) [1, 2, 3, 4, 5, 6, 7, 0] rfl (w_Ground_placeOn_86 C hr x2 x3 x4 x5 x6 x7 r57 x4 3 (x7 + 1) ih _ _ hφ hφ2 h)
def f_Ground_placeOn (p0 : Int32) (p1 : Int32) (p2 : Int32) (σ : CS) : Option (Int32 × CS) := bnd (f_Ground_boundsOn p0 σ) (fun r2 σ2 => if r2 = (-1) then some (0, σ2) else bnd (f_Table_get 2 r2 2 σ2) (fun r22 σ22 => L_Ground_placeOn_33 p1 p2 r2 r22 FU 0 0 σ22))
set_option maxHeartbeats 4000000 in
set_option maxRecDepth 100000 in
theorem c_Ground_placeOn {l : Launch} {g : EG} {ad ta : Nat → Nat} {Rr : va_W} {σ σ' : CS} {r : Int32} {p0 : Int32} {p1 : Int32} {p2 : Int32}  (h : f_Ground_placeOn p0 p1 p2 σ = some (r, σ')) (hφ2 : ph σ.2.2 ≤ BB) : CtI l g yX2_placeOn (.code yX2_placeOn cX2_placeOn 10 (some .int)) 2 63 ad ta Rr σ [.ref (ad 1), .int p0, .int p1, .int p2] r σ' := by
  refine Ct.of rfl (by decide) (Nat.le_of_ble_eq_true rfl) ?_
  intro p e s m args below meth c A C hr
  have hφ : ph σ.2.2 ≤ ph σ.2.2 := Nat.le_refl _
  refine nw_zero (ph σ.2.2) ?_
  show NI g p l e s m args below meth c A 2 63 10 ad Rr (ph σ.2.2) (r, σ') ta σ [(0, .ref (ad 1)), (1, .int p0), (2, .int p1), (3, .int p2)] 0 []
  unfold f_Ground_placeOn at h
  refine nw_aload_n C dX2_placeOn_0 rfl 0 rfl ?_
  refine nw_iload_n C dX2_placeOn_1 rfl 1 rfl ?_
  refine nc_callVI (q0 := 1) (As := [.int p0]) (rest := []) C h (fun _ _ e => c_Ground_boundsOn e hφ2) tw_836 kv_X2_boundsOn cl_Ground rfl ⟨Nat.le_of_ble_eq_true rfl, Nat.le_of_ble_eq_true rfl⟩ rfl dX2_placeOn_2 rfl (Nat.le_of_ble_eq_true rfl) hφ hφ2 (fun r2 σ2 ta h hφ hφ2 => ?_)
  refine nw_istore (lv' := [(4, .int r2), (0, .ref (ad 1)), (1, .int p0), (2, .int p1), (3, .int p2)]) C dX2_placeOn_5 (by decide) rfl ?_
  refine nw_iload C dX2_placeOn_7 0 rfl ?_
  refine nw_iconst (v := (-1)) C dX2_placeOn_9 (by decide) ?_
  refine nw_icmp_ne (tgt := 15) C dX2_placeOn_10 (by decide) h (fun _ h => ?_) (fun _ h => ?_)
  · refine nw_iconst (v := 0) C dX2_placeOn_13 (by decide) ?_
    exact nc_iret C hr dX2_placeOn_14 hφ hφ2 h
  · refine nw_aload_n C dX2_placeOn_15 rfl 1 rfl ?_
    refine nw_get (v := .ref (ad 13)) C in_X2 1 cl_Ground rfl 1 (by decide) tw_192 rfl rfl dX2_placeOn_16 ?_
    refine nw_iload C dX2_placeOn_19 0 rfl ?_
    refine nw_iconst (v := 2) C dX2_placeOn_21 (by decide) ?_
    refine nc_callVI (q0 := 13) (As := [.int r2, .int 2]) (rest := []) C h (fun _ _ e => c_Table_get 2 (by decide) e hφ2) tw_841 kv_X9_get (cl_T 2 (by decide)) rfl ⟨Nat.le_of_ble_eq_true rfl, Nat.le_of_ble_eq_true rfl⟩ rfl dX2_placeOn_22 rfl (Nat.le_of_ble_eq_true rfl) hφ hφ2 (fun r22 σ22 ta h hφ hφ2 => ?_)
    refine nw_istore (lv' := [(5, .int r22), (4, .int r2), (0, .ref (ad 1)), (1, .int p0), (2, .int p1), (3, .int p2)]) C dX2_placeOn_25 (by decide) rfl ?_
    refine nw_iconst (v := 0) C dX2_placeOn_27 (by decide) ?_
    refine nw_istore (lv' := [(6, .int 0), (5, .int r22), (4, .int r2), (0, .ref (ad 1)), (1, .int p0), (2, .int p1), (3, .int p2)]) C dX2_placeOn_28 (by decide) rfl ?_
    refine nw_iconst (v := 0) C dX2_placeOn_30 (by decide) ?_
    refine nw_istore (lv' := [(7, .int 0), (6, .int 0), (5, .int r22), (4, .int r2), (0, .ref (ad 1)), (1, .int p0), (2, .int p1), (3, .int p2)]) C dX2_placeOn_31 (by decide) rfl ?_
    exact nw_lv (lv' := [(0, .ref (ad 1)), (2, .int p1), (3, .int p2), (4, .int r2), (5, .int r22), (6, .int 0), (7, .int 0)]) [4, 6, 7, 3, 2, 1, 0] rfl (w_Ground_placeOn_33 C hr p1 p2 r2 r22 FU 0 0 _ _ hφ hφ2 h)
theorem dX3_join_0 : decode cX3_join 0 = .ok (.iload_n 0, 1) := by decide +kernel
theorem dX3_join_1 : decode cX3_join 1 = .ok (.tableswitch 131 10011 10020 #[55, 59, 63, 74, 85, 96, 100, 104, 108, 120], 55) := by decide +kernel
theorem dX3_join_56 : decode cX3_join 56 = .ok (.iload_n 1, 1) := by decide +kernel
theorem dX3_join_57 : decode cX3_join 57 = .ok (.iload_n 2, 1) := by decide +kernel
theorem dX3_join_58 : decode cX3_join 58 = .ok (.iand, 1) := by decide +kernel
theorem dX3_join_59 : decode cX3_join 59 = .ok (.ireturn, 1) := by decide +kernel
theorem dX3_join_60 : decode cX3_join 60 = .ok (.iload_n 1, 1) := by decide +kernel
theorem dX3_join_61 : decode cX3_join 61 = .ok (.iload_n 2, 1) := by decide +kernel
theorem dX3_join_62 : decode cX3_join 62 = .ok (.ior, 1) := by decide +kernel
theorem dX3_join_63 : decode cX3_join 63 = .ok (.ireturn, 1) := by decide +kernel
theorem dX3_join_64 : decode cX3_join 64 = .ok (.iload_n 1, 1) := by decide +kernel
theorem dX3_join_65 : decode cX3_join 65 = .ok (.iload_n 2, 1) := by decide +kernel
theorem dX3_join_66 : decode cX3_join 66 = .ok (.if_icmp .ge 7, 3) := by decide +kernel
theorem dX3_join_69 : decode cX3_join 69 = .ok (.iconst 1, 1) := by decide +kernel
theorem dX3_join_70 : decode cX3_join 70 = .ok (.goto 4, 3) := by decide +kernel
theorem dX3_join_73 : decode cX3_join 73 = .ok (.iconst 0, 1) := by decide +kernel
theorem dX3_join_74 : decode cX3_join 74 = .ok (.ireturn, 1) := by decide +kernel
theorem dX3_join_75 : decode cX3_join 75 = .ok (.iload_n 1, 1) := by decide +kernel
theorem dX3_join_76 : decode cX3_join 76 = .ok (.iload_n 2, 1) := by decide +kernel
theorem dX3_join_77 : decode cX3_join 77 = .ok (.if_icmp .le 7, 3) := by decide +kernel
theorem dX3_join_80 : decode cX3_join 80 = .ok (.iconst 1, 1) := by decide +kernel
theorem dX3_join_81 : decode cX3_join 81 = .ok (.goto 4, 3) := by decide +kernel
theorem dX3_join_84 : decode cX3_join 84 = .ok (.iconst 0, 1) := by decide +kernel
theorem dX3_join_85 : decode cX3_join 85 = .ok (.ireturn, 1) := by decide +kernel
theorem dX3_join_86 : decode cX3_join 86 = .ok (.iload_n 1, 1) := by decide +kernel
theorem dX3_join_87 : decode cX3_join 87 = .ok (.iload_n 2, 1) := by decide +kernel
theorem dX3_join_88 : decode cX3_join 88 = .ok (.if_icmp .ne 7, 3) := by decide +kernel
theorem dX3_join_91 : decode cX3_join 91 = .ok (.iconst 1, 1) := by decide +kernel
theorem dX3_join_92 : decode cX3_join 92 = .ok (.goto 4, 3) := by decide +kernel
theorem dX3_join_95 : decode cX3_join 95 = .ok (.iconst 0, 1) := by decide +kernel
theorem dX3_join_96 : decode cX3_join 96 = .ok (.ireturn, 1) := by decide +kernel
theorem dX3_join_97 : decode cX3_join 97 = .ok (.iload_n 1, 1) := by decide +kernel
theorem dX3_join_98 : decode cX3_join 98 = .ok (.iload_n 2, 1) := by decide +kernel
theorem dX3_join_99 : decode cX3_join 99 = .ok (.iadd, 1) := by decide +kernel
theorem dX3_join_100 : decode cX3_join 100 = .ok (.ireturn, 1) := by decide +kernel
theorem dX3_join_101 : decode cX3_join 101 = .ok (.iload_n 1, 1) := by decide +kernel
theorem dX3_join_102 : decode cX3_join 102 = .ok (.iload_n 2, 1) := by decide +kernel
theorem dX3_join_103 : decode cX3_join 103 = .ok (.isub, 1) := by decide +kernel
theorem dX3_join_104 : decode cX3_join 104 = .ok (.ireturn, 1) := by decide +kernel
theorem dX3_join_105 : decode cX3_join 105 = .ok (.iload_n 1, 1) := by decide +kernel
theorem dX3_join_106 : decode cX3_join 106 = .ok (.iload_n 2, 1) := by decide +kernel
theorem dX3_join_107 : decode cX3_join 107 = .ok (.imul, 1) := by decide +kernel
theorem dX3_join_108 : decode cX3_join 108 = .ok (.ireturn, 1) := by decide +kernel
theorem dX3_join_109 : decode cX3_join 109 = .ok (.iload_n 2, 1) := by decide +kernel
theorem dX3_join_110 : decode cX3_join 110 = .ok (.ifCond .ne 7, 3) := by decide +kernel
theorem dX3_join_113 : decode cX3_join 113 = .ok (.iconst 0, 1) := by decide +kernel
theorem dX3_join_114 : decode cX3_join 114 = .ok (.goto 6, 3) := by decide +kernel
theorem dX3_join_117 : decode cX3_join 117 = .ok (.iload_n 1, 1) := by decide +kernel
theorem dX3_join_118 : decode cX3_join 118 = .ok (.iload_n 2, 1) := by decide +kernel
theorem dX3_join_119 : decode cX3_join 119 = .ok (.idiv, 1) := by decide +kernel
theorem dX3_join_120 : decode cX3_join 120 = .ok (.ireturn, 1) := by decide +kernel
theorem dX3_join_121 : decode cX3_join 121 = .ok (.iload_n 1, 1) := by decide +kernel
theorem dX3_join_122 : decode cX3_join 122 = .ok (.iload_n 2, 1) := by decide +kernel
theorem dX3_join_123 : decode cX3_join 123 = .ok (.if_icmp .ge 7, 3) := by decide +kernel
theorem dX3_join_126 : decode cX3_join 126 = .ok (.iload_n 1, 1) := by decide +kernel
theorem dX3_join_127 : decode cX3_join 127 = .ok (.goto 4, 3) := by decide +kernel
theorem dX3_join_130 : decode cX3_join 130 = .ok (.iload_n 2, 1) := by decide +kernel
theorem dX3_join_131 : decode cX3_join 131 = .ok (.ireturn, 1) := by decide +kernel
theorem dX3_join_132 : decode cX3_join 132 = .ok (.iload_n 1, 1) := by decide +kernel
theorem dX3_join_133 : decode cX3_join 133 = .ok (.iload_n 2, 1) := by decide +kernel
theorem dX3_join_134 : decode cX3_join 134 = .ok (.if_icmp .le 7, 3) := by decide +kernel
theorem dX3_join_137 : decode cX3_join 137 = .ok (.iload_n 1, 1) := by decide +kernel
theorem dX3_join_138 : decode cX3_join 138 = .ok (.goto 4, 3) := by decide +kernel
theorem dX3_join_141 : decode cX3_join 141 = .ok (.iload_n 2, 1) := by decide +kernel
theorem dX3_join_142 : decode cX3_join 142 = .ok (.ireturn, 1) := by decide +kernel
def f_Laws_join (p0 : Int32) (p1 : Int32) (p2 : Int32) (σ : CS) : Option (Int32 × CS) := if p0 = 10011 then some ((p1 &&& p2), σ) else if p0 = 10012 then some ((p1 ||| p2), σ) else if p0 = 10013 then if p2 ≤ p1 then some (0, σ) else some (1, σ) else if p0 = 10014 then if p1 ≤ p2 then some (0, σ) else some (1, σ) else if p0 = 10015 then if p1 = p2 then some (1, σ) else some (0, σ) else if p0 = 10016 then some ((p1 + p2), σ) else if p0 = 10017 then some ((p1 - p2), σ) else if p0 = 10018 then some ((p1 * p2), σ) else if p0 = 10019 then if p2 = 0 then some (0, σ) else grd (¬ p2 = 0) (some ((p1 / p2), σ)) else if p0 = 10020 then if p2 ≤ p1 then some (p2, σ) else some (p1, σ) else if p1 ≤ p2 then some (p2, σ) else some (p1, σ)
set_option maxHeartbeats 4000000 in
set_option maxRecDepth 100000 in
theorem c_Laws_join {l : Launch} {g : EG} {ad ta : Nat → Nat} {Rr : va_W} {σ σ' : CS} {r : Int32} {p0 : Int32} {p1 : Int32} {p2 : Int32}  (h : f_Laws_join p0 p1 p2 σ = some (r, σ')) (hφ2 : ph σ.2.2 ≤ BB) : CtI l g yX3_join (.code yX3_join cX3_join 3 (some .int)) 0 0 ad ta Rr σ [.int p0, .int p1, .int p2] r σ' := by
  refine Ct.of rfl (by decide) (Nat.le_of_ble_eq_true rfl) ?_
  intro p e s m args below meth c A C hr
  have hφ : ph σ.2.2 ≤ ph σ.2.2 := Nat.le_refl _
  refine nw_zero (ph σ.2.2) ?_
  show NI g p l e s m args below meth c A 0 0 3 ad Rr (ph σ.2.2) (r, σ') ta σ [(0, .int p0), (1, .int p1), (2, .int p2)] 0 []
  unfold f_Laws_join at h
  refine nw_iload_n C dX3_join_0 rfl 0 rfl ?_
  refine nw_tsCase (tgt := 56) C 10011 dX3_join_1 (by decide) (by decide) rfl (by decide) h (fun _ h => ?_) (fun hc10011 h => ?_)
  · refine nw_iload_n C dX3_join_56 rfl 1 rfl ?_
    refine nw_iload_n C dX3_join_57 rfl 2 rfl ?_
    refine nw_iand C dX3_join_58 ?_
    exact nc_iret C hr dX3_join_59 hφ hφ2 h
  · refine nw_tsCase (tgt := 60) C 10012 dX3_join_1 (by decide) (by decide) rfl (by decide) h (fun _ h => ?_) (fun hc10012 h => ?_)
    · refine nw_iload_n C dX3_join_60 rfl 1 rfl ?_
      refine nw_iload_n C dX3_join_61 rfl 2 rfl ?_
      refine nw_ior C dX3_join_62 ?_
      exact nc_iret C hr dX3_join_63 hφ hφ2 h
    · refine nw_tsCase (tgt := 64) C 10013 dX3_join_1 (by decide) (by decide) rfl (by decide) h (fun _ h => ?_) (fun hc10013 h => ?_)
      · refine nw_iload_n C dX3_join_64 rfl 1 rfl ?_
        refine nw_iload_n C dX3_join_65 rfl 2 rfl ?_
        refine nw_icmp_ge (tgt := 73) C dX3_join_66 (by decide) h (fun _ h => ?_) (fun _ h => ?_)
        · refine nw_iconst (v := 0) C dX3_join_73 (by decide) ?_
          exact nc_iret C hr dX3_join_74 hφ hφ2 h
        · refine nw_iconst (v := 1) C dX3_join_69 (by decide) ?_
          refine nw_goto (tgt := 74) C dX3_join_70 (by decide) ?_
          exact nc_iret C hr dX3_join_74 hφ hφ2 h
      · refine nw_tsCase (tgt := 75) C 10014 dX3_join_1 (by decide) (by decide) rfl (by decide) h (fun _ h => ?_) (fun hc10014 h => ?_)
        · refine nw_iload_n C dX3_join_75 rfl 1 rfl ?_
          refine nw_iload_n C dX3_join_76 rfl 2 rfl ?_
          refine nw_icmp_le (tgt := 84) C dX3_join_77 (by decide) h (fun _ h => ?_) (fun _ h => ?_)
          · refine nw_iconst (v := 0) C dX3_join_84 (by decide) ?_
            exact nc_iret C hr dX3_join_85 hφ hφ2 h
          · refine nw_iconst (v := 1) C dX3_join_80 (by decide) ?_
            refine nw_goto (tgt := 85) C dX3_join_81 (by decide) ?_
            exact nc_iret C hr dX3_join_85 hφ hφ2 h
        · refine nw_tsCase (tgt := 86) C 10015 dX3_join_1 (by decide) (by decide) rfl (by decide) h (fun _ h => ?_) (fun hc10015 h => ?_)
          · refine nw_iload_n C dX3_join_86 rfl 1 rfl ?_
            refine nw_iload_n C dX3_join_87 rfl 2 rfl ?_
            refine nw_icmp_ne (tgt := 95) C dX3_join_88 (by decide) h (fun _ h => ?_) (fun _ h => ?_)
            · refine nw_iconst (v := 1) C dX3_join_91 (by decide) ?_
              refine nw_goto (tgt := 96) C dX3_join_92 (by decide) ?_
              exact nc_iret C hr dX3_join_96 hφ hφ2 h
            · refine nw_iconst (v := 0) C dX3_join_95 (by decide) ?_
              exact nc_iret C hr dX3_join_96 hφ hφ2 h
          · refine nw_tsCase (tgt := 97) C 10016 dX3_join_1 (by decide) (by decide) rfl (by decide) h (fun _ h => ?_) (fun hc10016 h => ?_)
            · refine nw_iload_n C dX3_join_97 rfl 1 rfl ?_
              refine nw_iload_n C dX3_join_98 rfl 2 rfl ?_
              refine nw_iadd C dX3_join_99 ?_
              exact nc_iret C hr dX3_join_100 hφ hφ2 h
            · refine nw_tsCase (tgt := 101) C 10017 dX3_join_1 (by decide) (by decide) rfl (by decide) h (fun _ h => ?_) (fun hc10017 h => ?_)
              · refine nw_iload_n C dX3_join_101 rfl 1 rfl ?_
                refine nw_iload_n C dX3_join_102 rfl 2 rfl ?_
                refine nw_isub C dX3_join_103 ?_
                exact nc_iret C hr dX3_join_104 hφ hφ2 h
              · refine nw_tsCase (tgt := 105) C 10018 dX3_join_1 (by decide) (by decide) rfl (by decide) h (fun _ h => ?_) (fun hc10018 h => ?_)
                · refine nw_iload_n C dX3_join_105 rfl 1 rfl ?_
                  refine nw_iload_n C dX3_join_106 rfl 2 rfl ?_
                  refine nw_imul C dX3_join_107 ?_
                  exact nc_iret C hr dX3_join_108 hφ hφ2 h
                · refine nw_tsCase (tgt := 109) C 10019 dX3_join_1 (by decide) (by decide) rfl (by decide) h (fun _ h => ?_) (fun hc10019 h => ?_)
                  · refine nw_iload_n C dX3_join_109 rfl 2 rfl ?_
                    refine nw_if_ne (tgt := 117) C dX3_join_110 (by decide) h (fun _ h => ?_) (fun _ h => ?_)
                    · refine nw_iconst (v := 0) C dX3_join_113 (by decide) ?_
                      refine nw_goto (tgt := 120) C dX3_join_114 (by decide) ?_
                      exact nc_iret C hr dX3_join_120 hφ hφ2 h
                    · refine nw_iload_n C dX3_join_117 rfl 1 rfl ?_
                      refine nw_iload_n C dX3_join_118 rfl 2 rfl ?_
                      refine nw_idiv C dX3_join_119 h (fun h => ?_)
                      exact nc_iret C hr dX3_join_120 hφ hφ2 h
                  · refine nw_tsCase (tgt := 121) C 10020 dX3_join_1 (by decide) (by decide) rfl (by decide) h (fun _ h => ?_) (fun hc10020 h => ?_)
                    · refine nw_iload_n C dX3_join_121 rfl 1 rfl ?_
                      refine nw_iload_n C dX3_join_122 rfl 2 rfl ?_
                      refine nw_icmp_ge (tgt := 130) C dX3_join_123 (by decide) h (fun _ h => ?_) (fun _ h => ?_)
                      · refine nw_iload_n C dX3_join_130 rfl 2 rfl ?_
                        exact nc_iret C hr dX3_join_131 hφ hφ2 h
                      · refine nw_iload_n C dX3_join_126 rfl 1 rfl ?_
                        refine nw_goto (tgt := 131) C dX3_join_127 (by decide) ?_
                        exact nc_iret C hr dX3_join_131 hφ hφ2 h
                    · refine nw_tsOut (tgt := 132) C dX3_join_1 (by have q10011 := lv_neT hc10011 (a := 10011) (by decide); have q10012 := lv_neT hc10012 (a := 10012) (by decide); have q10013 := lv_neT hc10013 (a := 10013) (by decide); have q10014 := lv_neT hc10014 (a := 10014) (by decide); have q10015 := lv_neT hc10015 (a := 10015) (by decide); have q10016 := lv_neT hc10016 (a := 10016) (by decide); have q10017 := lv_neT hc10017 (a := 10017) (by decide); have q10018 := lv_neT hc10018 (a := 10018) (by decide); have q10019 := lv_neT hc10019 (a := 10019) (by decide); have q10020 := lv_neT hc10020 (a := 10020) (by decide); omega) (by decide) ?_
                      refine nw_iload_n C dX3_join_132 rfl 1 rfl ?_
                      refine nw_iload_n C dX3_join_133 rfl 2 rfl ?_
                      refine nw_icmp_le (tgt := 141) C dX3_join_134 (by decide) h (fun _ h => ?_) (fun _ h => ?_)
                      · refine nw_iload_n C dX3_join_141 rfl 2 rfl ?_
                        exact nc_iret C hr dX3_join_142 hφ hφ2 h
                      · refine nw_iload_n C dX3_join_137 rfl 1 rfl ?_
                        refine nw_goto (tgt := 142) C dX3_join_138 (by decide) ?_
                        exact nc_iret C hr dX3_join_142 hφ hφ2 h
theorem dX3_valueOf_0 : decode cX3_valueOf 0 = .ok (.iconst 0, 1) := by decide +kernel
theorem dX3_valueOf_1 : decode cX3_valueOf 1 = .ok (.istore_n 3, 1) := by decide +kernel
theorem dX3_valueOf_2 : decode cX3_valueOf 2 = .ok (.aload_n 0, 1) := by decide +kernel
theorem dX3_valueOf_3 : decode cX3_valueOf 3 = .ok (.getfield 22, 3) := by decide +kernel
theorem dX3_valueOf_6 : decode cX3_valueOf 6 = .ok (.iload_n 1, 1) := by decide +kernel
theorem dX3_valueOf_7 : decode cX3_valueOf 7 = .ok (.iconst 4, 1) := by decide +kernel
theorem dX3_valueOf_8 : decode cX3_valueOf 8 = .ok (.invokevirtual 86, 3) := by decide +kernel
theorem dX3_valueOf_11 : decode cX3_valueOf 11 = .ok (.istore 4, 2) := by decide +kernel
theorem dX3_valueOf_13 : decode cX3_valueOf 13 = .ok (.iload 4, 2) := by decide +kernel
theorem dX3_valueOf_15 : decode cX3_valueOf 15 = .ok (.aload_n 0, 1) := by decide +kernel
theorem dX3_valueOf_16 : decode cX3_valueOf 16 = .ok (.getfield 22, 3) := by decide +kernel
theorem dX3_valueOf_19 : decode cX3_valueOf 19 = .ok (.iload_n 1, 1) := by decide +kernel
theorem dX3_valueOf_20 : decode cX3_valueOf 20 = .ok (.iconst 5, 1) := by decide +kernel
theorem dX3_valueOf_21 : decode cX3_valueOf 21 = .ok (.invokevirtual 86, 3) := by decide +kernel
theorem dX3_valueOf_24 : decode cX3_valueOf 24 = .ok (.if_icmp .ge 145, 3) := by decide +kernel
theorem dX3_valueOf_27 : decode cX3_valueOf 27 = .ok (.aload_n 0, 1) := by decide +kernel
theorem dX3_valueOf_28 : decode cX3_valueOf 28 = .ok (.getfield 25, 3) := by decide +kernel
theorem dX3_valueOf_31 : decode cX3_valueOf 31 = .ok (.iload 4, 2) := by decide +kernel
theorem dX3_valueOf_33 : decode cX3_valueOf 33 = .ok (.iconst 0, 1) := by decide +kernel
theorem dX3_valueOf_34 : decode cX3_valueOf 34 = .ok (.invokevirtual 86, 3) := by decide +kernel
theorem dX3_valueOf_37 : decode cX3_valueOf 37 = .ok (.istore 5, 2) := by decide +kernel
theorem dX3_valueOf_39 : decode cX3_valueOf 39 = .ok (.iload 5, 2) := by decide +kernel
theorem dX3_valueOf_41 : decode cX3_valueOf 41 = .ok (.sipush 10010, 3) := by decide +kernel
theorem dX3_valueOf_44 : decode cX3_valueOf 44 = .ok (.if_icmp .ge 48, 3) := by decide +kernel
theorem dX3_valueOf_47 : decode cX3_valueOf 47 = .ok (.iload_n 3, 1) := by decide +kernel
theorem dX3_valueOf_48 : decode cX3_valueOf 48 = .ok (.aload_n 0, 1) := by decide +kernel
theorem dX3_valueOf_49 : decode cX3_valueOf 49 = .ok (.getfield 35, 3) := by decide +kernel
theorem dX3_valueOf_52 : decode cX3_valueOf 52 = .ok (.arraylength, 1) := by decide +kernel
theorem dX3_valueOf_53 : decode cX3_valueOf 53 = .ok (.if_icmp .ge 39, 3) := by decide +kernel
theorem dX3_valueOf_56 : decode cX3_valueOf 56 = .ok (.aload_n 0, 1) := by decide +kernel
theorem dX3_valueOf_57 : decode cX3_valueOf 57 = .ok (.getfield 35, 3) := by decide +kernel
theorem dX3_valueOf_60 : decode cX3_valueOf 60 = .ok (.iload_n 3, 1) := by decide +kernel
theorem dX3_valueOf_61 : decode cX3_valueOf 61 = .ok (.iload 5, 2) := by decide +kernel
theorem dX3_valueOf_63 : decode cX3_valueOf 63 = .ok (.sipush 10000, 3) := by decide +kernel
theorem dX3_valueOf_66 : decode cX3_valueOf 66 = .ok (.if_icmp .ge 8, 3) := by decide +kernel
theorem dX3_valueOf_69 : decode cX3_valueOf 69 = .ok (.iload 5, 2) := by decide +kernel
theorem dX3_valueOf_71 : decode cX3_valueOf 71 = .ok (.goto 14, 3) := by decide +kernel
theorem dX3_valueOf_74 : decode cX3_valueOf 74 = .ok (.aload_n 2, 1) := by decide +kernel
theorem dX3_valueOf_75 : decode cX3_valueOf 75 = .ok (.iconst 0, 1) := by decide +kernel
theorem dX3_valueOf_76 : decode cX3_valueOf 76 = .ok (.iload 5, 2) := by decide +kernel
theorem dX3_valueOf_78 : decode cX3_valueOf 78 = .ok (.sipush 10000, 3) := by decide +kernel
theorem dX3_valueOf_81 : decode cX3_valueOf 81 = .ok (.isub, 1) := by decide +kernel
theorem dX3_valueOf_82 : decode cX3_valueOf 82 = .ok (.invokevirtual 86, 3) := by decide +kernel
theorem dX3_valueOf_85 : decode cX3_valueOf 85 = .ok (.iastore, 1) := by decide +kernel
theorem dX3_valueOf_86 : decode cX3_valueOf 86 = .ok (.iinc 3 1, 3) := by decide +kernel
theorem dX3_valueOf_89 : decode cX3_valueOf 89 = .ok (.goto 74, 3) := by decide +kernel
theorem dX3_valueOf_92 : decode cX3_valueOf 92 = .ok (.iload 5, 2) := by decide +kernel
theorem dX3_valueOf_94 : decode cX3_valueOf 94 = .ok (.sipush 10010, 3) := by decide +kernel
theorem dX3_valueOf_97 : decode cX3_valueOf 97 = .ok (.if_icmp .ne 29, 3) := by decide +kernel
theorem dX3_valueOf_100 : decode cX3_valueOf 100 = .ok (.iload_n 3, 1) := by decide +kernel
theorem dX3_valueOf_101 : decode cX3_valueOf 101 = .ok (.iconst 1, 1) := by decide +kernel
theorem dX3_valueOf_102 : decode cX3_valueOf 102 = .ok (.if_icmp .lt 24, 3) := by decide +kernel
theorem dX3_valueOf_105 : decode cX3_valueOf 105 = .ok (.aload_n 0, 1) := by decide +kernel
theorem dX3_valueOf_106 : decode cX3_valueOf 106 = .ok (.getfield 35, 3) := by decide +kernel
theorem dX3_valueOf_109 : decode cX3_valueOf 109 = .ok (.iload_n 3, 1) := by decide +kernel
theorem dX3_valueOf_110 : decode cX3_valueOf 110 = .ok (.iconst 1, 1) := by decide +kernel
theorem dX3_valueOf_111 : decode cX3_valueOf 111 = .ok (.isub, 1) := by decide +kernel
theorem dX3_valueOf_112 : decode cX3_valueOf 112 = .ok (.iconst 1, 1) := by decide +kernel
theorem dX3_valueOf_113 : decode cX3_valueOf 113 = .ok (.aload_n 0, 1) := by decide +kernel
theorem dX3_valueOf_114 : decode cX3_valueOf 114 = .ok (.getfield 35, 3) := by decide +kernel
theorem dX3_valueOf_117 : decode cX3_valueOf 117 = .ok (.iload_n 3, 1) := by decide +kernel
theorem dX3_valueOf_118 : decode cX3_valueOf 118 = .ok (.iconst 1, 1) := by decide +kernel
theorem dX3_valueOf_119 : decode cX3_valueOf 119 = .ok (.isub, 1) := by decide +kernel
theorem dX3_valueOf_120 : decode cX3_valueOf 120 = .ok (.iaload, 1) := by decide +kernel
theorem dX3_valueOf_121 : decode cX3_valueOf 121 = .ok (.isub, 1) := by decide +kernel
theorem dX3_valueOf_122 : decode cX3_valueOf 122 = .ok (.iastore, 1) := by decide +kernel
theorem dX3_valueOf_123 : decode cX3_valueOf 123 = .ok (.goto 40, 3) := by decide +kernel
theorem dX3_valueOf_126 : decode cX3_valueOf 126 = .ok (.iload_n 3, 1) := by decide +kernel
theorem dX3_valueOf_127 : decode cX3_valueOf 127 = .ok (.iconst 2, 1) := by decide +kernel
theorem dX3_valueOf_128 : decode cX3_valueOf 128 = .ok (.if_icmp .lt 35, 3) := by decide +kernel
theorem dX3_valueOf_131 : decode cX3_valueOf 131 = .ok (.aload_n 0, 1) := by decide +kernel
theorem dX3_valueOf_132 : decode cX3_valueOf 132 = .ok (.getfield 35, 3) := by decide +kernel
theorem dX3_valueOf_135 : decode cX3_valueOf 135 = .ok (.iload_n 3, 1) := by decide +kernel
theorem dX3_valueOf_136 : decode cX3_valueOf 136 = .ok (.iconst 2, 1) := by decide +kernel
theorem dX3_valueOf_137 : decode cX3_valueOf 137 = .ok (.isub, 1) := by decide +kernel
theorem dX3_valueOf_138 : decode cX3_valueOf 138 = .ok (.iload 5, 2) := by decide +kernel
theorem dX3_valueOf_140 : decode cX3_valueOf 140 = .ok (.aload_n 0, 1) := by decide +kernel
theorem dX3_valueOf_141 : decode cX3_valueOf 141 = .ok (.getfield 35, 3) := by decide +kernel
theorem dX3_valueOf_144 : decode cX3_valueOf 144 = .ok (.iload_n 3, 1) := by decide +kernel
theorem dX3_valueOf_145 : decode cX3_valueOf 145 = .ok (.iconst 2, 1) := by decide +kernel
theorem dX3_valueOf_146 : decode cX3_valueOf 146 = .ok (.isub, 1) := by decide +kernel
theorem dX3_valueOf_147 : decode cX3_valueOf 147 = .ok (.iaload, 1) := by decide +kernel
theorem dX3_valueOf_148 : decode cX3_valueOf 148 = .ok (.aload_n 0, 1) := by decide +kernel
theorem dX3_valueOf_149 : decode cX3_valueOf 149 = .ok (.getfield 35, 3) := by decide +kernel
theorem dX3_valueOf_152 : decode cX3_valueOf 152 = .ok (.iload_n 3, 1) := by decide +kernel
theorem dX3_valueOf_153 : decode cX3_valueOf 153 = .ok (.iconst 1, 1) := by decide +kernel
theorem dX3_valueOf_154 : decode cX3_valueOf 154 = .ok (.isub, 1) := by decide +kernel
theorem dX3_valueOf_155 : decode cX3_valueOf 155 = .ok (.iaload, 1) := by decide +kernel
theorem dX3_valueOf_156 : decode cX3_valueOf 156 = .ok (.invokestatic 114, 3) := by decide +kernel
theorem dX3_valueOf_159 : decode cX3_valueOf 159 = .ok (.iastore, 1) := by decide +kernel
theorem dX3_valueOf_160 : decode cX3_valueOf 160 = .ok (.iinc 3 (-1), 3) := by decide +kernel
theorem dX3_valueOf_163 : decode cX3_valueOf 163 = .ok (.iinc 4 1, 3) := by decide +kernel
theorem dX3_valueOf_166 : decode cX3_valueOf 166 = .ok (.goto (-153), 3) := by decide +kernel
theorem dX3_valueOf_169 : decode cX3_valueOf 169 = .ok (.aload_n 0, 1) := by decide +kernel
theorem dX3_valueOf_170 : decode cX3_valueOf 170 = .ok (.getfield 35, 3) := by decide +kernel
theorem dX3_valueOf_173 : decode cX3_valueOf 173 = .ok (.arraylength, 1) := by decide +kernel
theorem dX3_valueOf_174 : decode cX3_valueOf 174 = .ok (.ifCond .le 12, 3) := by decide +kernel
theorem dX3_valueOf_177 : decode cX3_valueOf 177 = .ok (.aload_n 0, 1) := by decide +kernel
theorem dX3_valueOf_178 : decode cX3_valueOf 178 = .ok (.getfield 35, 3) := by decide +kernel
theorem dX3_valueOf_181 : decode cX3_valueOf 181 = .ok (.iconst 0, 1) := by decide +kernel
theorem dX3_valueOf_182 : decode cX3_valueOf 182 = .ok (.iaload, 1) := by decide +kernel
theorem dX3_valueOf_183 : decode cX3_valueOf 183 = .ok (.goto 4, 3) := by decide +kernel
theorem dX3_valueOf_186 : decode cX3_valueOf 186 = .ok (.iconst 0, 1) := by decide +kernel
theorem dX3_valueOf_187 : decode cX3_valueOf 187 = .ok (.ireturn, 1) := by decide +kernel
def B_Laws_valueOf_126 (k13 : Int32 → Int32 → CS → Option (Int32 × CS)) (x1 : Int32) (x3 : Int32) (x4 : Int32) (x5 : Int32) (σ : CS) : Option (Int32 × CS) := if x3 < 2 then k13 x3 (x4 + 1) σ else gix (x3 - 2) 64 (gix (x3 - 1) 64 (bnd (f_Laws_join x5 (rd σ 20 (x3 - 2)) (rd σ 20 (x3 - 1)) σ) (fun r156 σ156 => gix (x3 - 2) 64 (k13 (x3 + (-1)) (x4 + 1) (wr σ156 20 (x3 - 2) r156)))))
set_option maxHeartbeats 4000000 in
set_option maxRecDepth 100000 in
theorem w_Laws_valueOf_126 (C : Cx g p s m args meth c A 6 cX3_valueOf yX3_valueOf.cls) (hr : meth.sig.returnType = (some .int))  {res : Int32 × CS}  (x1 : Int32) (x3 : Int32) (x4 : Int32) (x5 : Int32) {k13 : Int32 → Int32 → CS → Option (Int32 × CS)} (hk13 : ∀ (x3 : Int32) (x4 : Int32) (σ : CS) (ta : Nat → Nat), φ0 ≤ ph σ.2.2 → ph σ.2.2 ≤ BB → k13 x3 x4 σ = some res → NI g p l e s m args below meth c A 1 23 6 ad Rr φ0 res ta σ [(0, .ref (ad 3)), (1, .int x1), (2, .ref (ad 59)), (3, .int x3), (4, .int x4)] 13 []) (σ : CS) (ta : Nat → Nat) (hφ : φ0 ≤ ph σ.2.2) (hφ2 : ph σ.2.2 ≤ BB) (h : B_Laws_valueOf_126 k13 x1 x3 x4 x5 σ = some res) : NI g p l e s m args below meth c A 1 23 6 ad Rr φ0 res ta σ [(0, .ref (ad 3)), (1, .int x1), (2, .ref (ad 59)), (3, .int x3), (4, .int x4), (5, .int x5)] 126 [] := by
  unfold B_Laws_valueOf_126 at h
  refine nw_iload_n C dX3_valueOf_126 rfl 3 rfl ?_
  refine nw_iconst (v := 2) C dX3_valueOf_127 (by decide) ?_
  refine nw_icmp_lt (tgt := 163) C dX3_valueOf_128 (by decide) h (fun _ h => ?_) (fun _ h => ?_)
  · refine nw_iinc (lv' := [(4, .int (x4 + 1)), (0, .ref (ad 3)), (1, .int x1), (2, .ref (ad 59)), (3, .int x3), (5, .int x5)]) C (x4 + 1) dX3_valueOf_163 4 rfl rfl (by decide) rfl ?_
    refine nw_goto (tgt := 13) C dX3_valueOf_166 (by decide) ?_
    exact nw_lv (lv' := [(0, .ref (ad 3)), (1, .int x1), (2, .ref (ad 59)), (3, .int x3), (4, .int (x4 + 1))]) [1, 2, 3, 4, 0] rfl (hk13 x3 (x4 + 1) _ _ hφ hφ2 h)
  · refine nw_aload_n C dX3_valueOf_131 rfl 0 rfl ?_
    refine nw_get (v := .ref (ad 47)) C in_X3 3 cl_Laws rfl 4 (by decide) tw_282 rfl rfl dX3_valueOf_132 ?_
    refine nw_iload_n C dX3_valueOf_135 rfl 3 rfl ?_
    refine nw_iconst (v := 2) C dX3_valueOf_136 (by decide) ?_
    refine nw_isub C dX3_valueOf_137 ?_
    refine nw_iload C dX3_valueOf_138 5 rfl ?_
    refine nw_aload_n C dX3_valueOf_140 rfl 0 rfl ?_
    refine nw_get (v := .ref (ad 47)) C in_X3 3 cl_Laws rfl 4 (by decide) tw_282 rfl rfl dX3_valueOf_141 ?_
    refine nw_iload_n C dX3_valueOf_144 rfl 3 rfl ?_
    refine nw_iconst (v := 2) C dX3_valueOf_145 (by decide) ?_
    refine nw_isub C dX3_valueOf_146 ?_
    refine nw_iald C 47 (cl_I 20 rfl) dX3_valueOf_147 h (fun h => ?_)
    refine nw_aload_n C dX3_valueOf_148 rfl 0 rfl ?_
    refine nw_get (v := .ref (ad 47)) C in_X3 3 cl_Laws rfl 4 (by decide) tw_282 rfl rfl dX3_valueOf_149 ?_
    refine nw_iload_n C dX3_valueOf_152 rfl 3 rfl ?_
    refine nw_iconst (v := 1) C dX3_valueOf_153 (by decide) ?_
    refine nw_isub C dX3_valueOf_154 ?_
    refine nw_iald C 47 (cl_I 20 rfl) dX3_valueOf_155 h (fun h => ?_)
    refine nc_callSI  (As := [.int x5, .int (rd σ 20 (x3 - 2)), .int (rd σ 20 (x3 - 1))]) (rest := [.int (x3 - 2), .ref (ad 47)]) C h (fun _ _ e => c_Laws_join e hφ2) tw_873 ks_X3_join ⟨Nat.le_of_ble_eq_true rfl, Nat.le_of_ble_eq_true rfl⟩ rfl dX3_valueOf_156 rfl (Nat.le_of_ble_eq_true rfl) hφ hφ2 (fun r156 σ156 ta h hφ hφ2 => ?_)
    refine nw_iast C 47 (cl_I 20 rfl) dX3_valueOf_159 h (cs_I 20 rfl) (fun h => ?_)
    refine nw_iinc (lv' := [(3, .int (x3 + (-1))), (0, .ref (ad 3)), (1, .int x1), (2, .ref (ad 59)), (4, .int x4), (5, .int x5)]) C (x3 + (-1)) dX3_valueOf_160 3 rfl rfl (by decide) rfl ?_
    refine nw_iinc (lv' := [(4, .int (x4 + 1)), (3, .int (x3 + (-1))), (0, .ref (ad 3)), (1, .int x1), (2, .ref (ad 59)), (5, .int x5)]) C (x4 + 1) dX3_valueOf_163 4 rfl rfl (by decide) rfl ?_
    refine nw_goto (tgt := 13) C dX3_valueOf_166 (by decide) ?_
    exact nw_lv (lv' := [(0, .ref (ad 3)), (1, .int x1), (2, .ref (ad 59)), (3, .int (x3 + (-1))), (4, .int (x4 + 1))]) [2, 3, 4, 1, 0] rfl (hk13 (x3 + (-1)) (x4 + 1) _ _ hφ hφ2 h)
def B_Laws_valueOf_92 (k13 : Int32 → Int32 → CS → Option (Int32 × CS)) (x1 : Int32) (x3 : Int32) (x4 : Int32) (x5 : Int32) (σ : CS) : Option (Int32 × CS) := if x5 = 10010 then if x3 < 1 then B_Laws_valueOf_126 k13 x1 x3 x4 x5 σ else gix (x3 - 1) 64 (gix (x3 - 1) 64 (k13 x3 (x4 + 1) (wr σ 20 (x3 - 1) (1 - (rd σ 20 (x3 - 1)))))) else B_Laws_valueOf_126 k13 x1 x3 x4 x5 σ
set_option maxHeartbeats 4000000 in
set_option maxRecDepth 100000 in
theorem w_Laws_valueOf_92 (C : Cx g p s m args meth c A 6 cX3_valueOf yX3_valueOf.cls) (hr : meth.sig.returnType = (some .int))  {res : Int32 × CS}  (x1 : Int32) (x3 : Int32) (x4 : Int32) (x5 : Int32) {k13 : Int32 → Int32 → CS → Option (Int32 × CS)} (hk13 : ∀ (x3 : Int32) (x4 : Int32) (σ : CS) (ta : Nat → Nat), φ0 ≤ ph σ.2.2 → ph σ.2.2 ≤ BB → k13 x3 x4 σ = some res → NI g p l e s m args below meth c A 1 23 6 ad Rr φ0 res ta σ [(0, .ref (ad 3)), (1, .int x1), (2, .ref (ad 59)), (3, .int x3), (4, .int x4)] 13 []) (σ : CS) (ta : Nat → Nat) (hφ : φ0 ≤ ph σ.2.2) (hφ2 : ph σ.2.2 ≤ BB) (h : B_Laws_valueOf_92 k13 x1 x3 x4 x5 σ = some res) : NI g p l e s m args below meth c A 1 23 6 ad Rr φ0 res ta σ [(0, .ref (ad 3)), (1, .int x1), (2, .ref (ad 59)), (3, .int x3), (4, .int x4), (5, .int x5)] 92 [] := by
  unfold B_Laws_valueOf_92 at h
  refine nw_iload C dX3_valueOf_92 5 rfl ?_
  refine nw_sipush (v := 10010) C dX3_valueOf_94 (by decide) ?_
  refine nw_icmp_ne (tgt := 126) C dX3_valueOf_97 (by decide) h (fun _ h => ?_) (fun _ h => ?_)
  · refine nw_iload_n C dX3_valueOf_100 rfl 3 rfl ?_
    refine nw_iconst (v := 1) C dX3_valueOf_101 (by decide) ?_
    refine nw_icmp_lt (tgt := 126) C dX3_valueOf_102 (by decide) h (fun _ h => ?_) (fun _ h => ?_)
    · exact nw_lv (lv' := [(0, .ref (ad 3)), (1, .int x1), (2, .ref (ad 59)), (3, .int x3), (4, .int x4), (5, .int x5)]) [0, 1, 2, 3, 4, 5] rfl (w_Laws_valueOf_126 C hr x1 x3 x4 x5 hk13 _ _ hφ hφ2 h)
    · refine nw_aload_n C dX3_valueOf_105 rfl 0 rfl ?_
      refine nw_get (v := .ref (ad 47)) C in_X3 3 cl_Laws rfl 4 (by decide) tw_282 rfl rfl dX3_valueOf_106 ?_
      refine nw_iload_n C dX3_valueOf_109 rfl 3 rfl ?_
      refine nw_iconst (v := 1) C dX3_valueOf_110 (by decide) ?_
      refine nw_isub C dX3_valueOf_111 ?_
      refine nw_iconst (v := 1) C dX3_valueOf_112 (by decide) ?_
      refine nw_aload_n C dX3_valueOf_113 rfl 0 rfl ?_
      refine nw_get (v := .ref (ad 47)) C in_X3 3 cl_Laws rfl 4 (by decide) tw_282 rfl rfl dX3_valueOf_114 ?_
      refine nw_iload_n C dX3_valueOf_117 rfl 3 rfl ?_
      refine nw_iconst (v := 1) C dX3_valueOf_118 (by decide) ?_
      refine nw_isub C dX3_valueOf_119 ?_
      refine nw_iald C 47 (cl_I 20 rfl) dX3_valueOf_120 h (fun h => ?_)
      refine nw_isub C dX3_valueOf_121 ?_
      refine nw_iast C 47 (cl_I 20 rfl) dX3_valueOf_122 h (cs_I 20 rfl) (fun h => ?_)
      refine nw_goto (tgt := 163) C dX3_valueOf_123 (by decide) ?_
      refine nw_iinc (lv' := [(4, .int (x4 + 1)), (0, .ref (ad 3)), (1, .int x1), (2, .ref (ad 59)), (3, .int x3), (5, .int x5)]) C (x4 + 1) dX3_valueOf_163 4 rfl rfl (by decide) rfl ?_
      refine nw_goto (tgt := 13) C dX3_valueOf_166 (by decide) ?_
      exact nw_lv (lv' := [(0, .ref (ad 3)), (1, .int x1), (2, .ref (ad 59)), (3, .int x3), (4, .int (x4 + 1))]) [1, 2, 3, 4, 0] rfl (hk13 x3 (x4 + 1) _ _ hφ hφ2 h)
  · exact nw_lv (lv' := [(0, .ref (ad 3)), (1, .int x1), (2, .ref (ad 59)), (3, .int x3), (4, .int x4), (5, .int x5)]) [0, 1, 2, 3, 4, 5] rfl (w_Laws_valueOf_126 C hr x1 x3 x4 x5 hk13 _ _ hφ hφ2 h)
def B_Laws_valueOf_85 (k13 : Int32 → Int32 → CS → Option (Int32 × CS)) (x1 : Int32) (x3 : Int32) (x4 : Int32) (z1 : Int32) (z2 : Int32) (σ : CS) : Option (Int32 × CS) := gix z1 64 (k13 (x3 + 1) (x4 + 1) (wr σ 20 z1 z2))
set_option maxHeartbeats 4000000 in
set_option maxRecDepth 100000 in
theorem w_Laws_valueOf_85 (C : Cx g p s m args meth c A 6 cX3_valueOf yX3_valueOf.cls) (hr : meth.sig.returnType = (some .int))  {res : Int32 × CS}  (x1 : Int32) (x3 : Int32) (x4 : Int32) (z1 : Int32) (z2 : Int32) {k13 : Int32 → Int32 → CS → Option (Int32 × CS)} (hk13 : ∀ (x3 : Int32) (x4 : Int32) (σ : CS) (ta : Nat → Nat), φ0 ≤ ph σ.2.2 → ph σ.2.2 ≤ BB → k13 x3 x4 σ = some res → NI g p l e s m args below meth c A 1 23 6 ad Rr φ0 res ta σ [(0, .ref (ad 3)), (1, .int x1), (2, .ref (ad 59)), (3, .int x3), (4, .int x4)] 13 []) (σ : CS) (ta : Nat → Nat) (hφ : φ0 ≤ ph σ.2.2) (hφ2 : ph σ.2.2 ≤ BB) (h : B_Laws_valueOf_85 k13 x1 x3 x4 z1 z2 σ = some res) : NI g p l e s m args below meth c A 1 23 6 ad Rr φ0 res ta σ [(0, .ref (ad 3)), (1, .int x1), (2, .ref (ad 59)), (3, .int x3), (4, .int x4)] 85 [.int z2, .int z1, .ref (ad 47)] := by
  unfold B_Laws_valueOf_85 at h
  refine nw_iast C 47 (cl_I 20 rfl) dX3_valueOf_85 h (cs_I 20 rfl) (fun h => ?_)
  refine nw_iinc (lv' := [(3, .int (x3 + 1)), (0, .ref (ad 3)), (1, .int x1), (2, .ref (ad 59)), (4, .int x4)]) C (x3 + 1) dX3_valueOf_86 3 rfl rfl (by decide) rfl ?_
  refine nw_goto (tgt := 163) C dX3_valueOf_89 (by decide) ?_
  refine nw_iinc (lv' := [(4, .int (x4 + 1)), (3, .int (x3 + 1)), (0, .ref (ad 3)), (1, .int x1), (2, .ref (ad 59))]) C (x4 + 1) dX3_valueOf_163 4 rfl rfl (by decide) rfl ?_
  refine nw_goto (tgt := 13) C dX3_valueOf_166 (by decide) ?_
  exact nw_lv (lv' := [(0, .ref (ad 3)), (1, .int x1), (2, .ref (ad 59)), (3, .int (x3 + 1)), (4, .int (x4 + 1))]) [2, 3, 4, 1, 0] rfl (hk13 (x3 + 1) (x4 + 1) _ _ hφ hφ2 h)
def L_Laws_valueOf_13 (k169 : CS → Option (Int32 × CS)) (x1 : Int32) : Nat → Int32 → Int32 → CS → Option (Int32 × CS)
  | 0, _, _, _ => none
  | n + 1, x3, x4, σ => bnd (f_Table_get 4 x1 5 σ) (fun r21 σ21 => if r21 ≤ x4 then k169 σ21 else bnd (f_Table_get 5 x4 0 σ21) (fun r34 σ34 => if 10010 ≤ r34 then B_Laws_valueOf_92 (L_Laws_valueOf_13 k169 x1 n) x1 x3 x4 r34 σ34 else if 64 ≤ x3 then B_Laws_valueOf_92 (L_Laws_valueOf_13 k169 x1 n) x1 x3 x4 r34 σ34 else if 10000 ≤ r34 then bnd (f_FTable_get 0 (r34 - 10000) σ34) (fun r82 σ82 => B_Laws_valueOf_85 (L_Laws_valueOf_13 k169 x1 n) x1 x3 x4 x3 r82 σ82) else B_Laws_valueOf_85 (L_Laws_valueOf_13 k169 x1 n) x1 x3 x4 x3 r34 σ34))
set_option maxHeartbeats 4000000 in
set_option maxRecDepth 100000 in
theorem w_Laws_valueOf_13 (C : Cx g p s m args meth c A 6 cX3_valueOf yX3_valueOf.cls) (hr : meth.sig.returnType = (some .int))  {res : Int32 × CS}  (x1 : Int32) {k169 : CS → Option (Int32 × CS)} (hk169 : ∀  (σ : CS) (ta : Nat → Nat), φ0 ≤ ph σ.2.2 → ph σ.2.2 ≤ BB → k169  σ = some res → NI g p l e s m args below meth c A 1 23 6 ad Rr φ0 res ta σ [(0, .ref (ad 3))] 169 []) : ∀ (n : Nat) (x3 : Int32) (x4 : Int32) (σ : CS) (ta : Nat → Nat), φ0 ≤ ph σ.2.2 → ph σ.2.2 ≤ BB → L_Laws_valueOf_13 k169 x1 n x3 x4 σ = some res → NI g p l e s m args below meth c A 1 23 6 ad Rr φ0 res ta σ [(0, .ref (ad 3)), (1, .int x1), (2, .ref (ad 59)), (3, .int x3), (4, .int x4)] 13 [] := by
  intro n
  induction n with
  | zero =>
    intro x3 x4 σ ta hφ hφ2 h
    exact absurd (show (none : Option (Int32 × CS)) = some res from h) (by intro h9; cases h9)
  | succ n ih =>
    intro x3 x4 σ ta hφ hφ2 h
    rw [L_Laws_valueOf_13] at h
    refine nw_iload C dX3_valueOf_13 4 rfl ?_
    refine nw_aload_n C dX3_valueOf_15 rfl 0 rfl ?_
    refine nw_get (v := .ref (ad 15)) C in_X3 3 cl_Laws rfl 1 (by decide) tw_279 rfl rfl dX3_valueOf_16 ?_
    refine nw_iload_n C dX3_valueOf_19 rfl 1 rfl ?_
    refine nw_iconst (v := 5) C dX3_valueOf_20 (by decide) ?_
    refine nc_callVI (q0 := 15) (As := [.int x1, .int 5]) (rest := [.int x4]) C h (fun _ _ e => c_Table_get 4 (by decide) e hφ2) tw_789 kv_X9_get (cl_T 4 (by decide)) rfl ⟨Nat.le_of_ble_eq_true rfl, Nat.le_of_ble_eq_true rfl⟩ rfl dX3_valueOf_21 rfl (Nat.le_of_ble_eq_true rfl) hφ hφ2 (fun r21 σ21 ta h hφ hφ2 => ?_)
    refine nw_icmp_ge (tgt := 169) C dX3_valueOf_24 (by decide) h (fun _ h => ?_) (fun _ h => ?_)
    · exact nw_lv (lv' := [(0, .ref (ad 3))]) [0] rfl (hk169  _ _ hφ hφ2 h)
    · refine nw_aload_n C dX3_valueOf_27 rfl 0 rfl ?_
      refine nw_get (v := .ref (ad 16)) C in_X3 3 cl_Laws rfl 2 (by decide) tw_280 rfl rfl dX3_valueOf_28 ?_
      refine nw_iload C dX3_valueOf_31 4 rfl ?_
      refine nw_iconst (v := 0) C dX3_valueOf_33 (by decide) ?_
      refine nc_callVI (q0 := 16) (As := [.int x4, .int 0]) (rest := []) C h (fun _ _ e => c_Table_get 5 (by decide) e hφ2) tw_789 kv_X9_get (cl_T 5 (by decide)) rfl ⟨Nat.le_of_ble_eq_true rfl, Nat.le_of_ble_eq_true rfl⟩ rfl dX3_valueOf_34 rfl (Nat.le_of_ble_eq_true rfl) hφ hφ2 (fun r34 σ34 ta h hφ hφ2 => ?_)
      refine nw_istore (lv' := [(5, .int r34), (0, .ref (ad 3)), (1, .int x1), (2, .ref (ad 59)), (3, .int x3), (4, .int x4)]) C dX3_valueOf_37 (by decide) rfl ?_
      refine nw_iload C dX3_valueOf_39 0 rfl ?_
      refine nw_sipush (v := 10010) C dX3_valueOf_41 (by decide) ?_
      refine nw_icmp_ge (tgt := 92) C dX3_valueOf_44 (by decide) h (fun _ h => ?_) (fun _ h => ?_)
      · exact nw_lv (lv' := [(0, .ref (ad 3)), (1, .int x1), (2, .ref (ad 59)), (3, .int x3), (4, .int x4), (5, .int r34)]) [1, 2, 3, 4, 5, 0] rfl (w_Laws_valueOf_92 C hr x1 x3 x4 r34 ih _ _ hφ hφ2 h)
      · refine nw_iload_n C dX3_valueOf_47 rfl 4 rfl ?_
        refine nw_aload_n C dX3_valueOf_48 rfl 1 rfl ?_
        refine nw_get (v := .ref (ad 47)) C in_X3 3 cl_Laws rfl 4 (by decide) tw_282 rfl rfl dX3_valueOf_49 ?_
        refine nw_alenI C 47 (cl_I 20 rfl) dX3_valueOf_52 ?_
        refine nw_st (st' := [.int 64, .int x3]) rfl ?_
        refine nw_icmp_ge (tgt := 92) C dX3_valueOf_53 (by decide) h (fun _ h => ?_) (fun _ h => ?_)
        · exact nw_lv (lv' := [(0, .ref (ad 3)), (1, .int x1), (2, .ref (ad 59)), (3, .int x3), (4, .int x4), (5, .int r34)]) [1, 2, 3, 4, 5, 0] rfl (w_Laws_valueOf_92 C hr x1 x3 x4 r34 ih _ _ hφ hφ2 h)
        · refine nw_aload_n C dX3_valueOf_56 rfl 1 rfl ?_
          refine nw_get (v := .ref (ad 47)) C in_X3 3 cl_Laws rfl 4 (by decide) tw_282 rfl rfl dX3_valueOf_57 ?_
          refine nw_iload_n C dX3_valueOf_60 rfl 4 rfl ?_
          refine nw_iload C dX3_valueOf_61 0 rfl ?_
          refine nw_sipush (v := 10000) C dX3_valueOf_63 (by decide) ?_
          refine nw_icmp_ge (tgt := 74) C dX3_valueOf_66 (by decide) h (fun _ h => ?_) (fun _ h => ?_)
          · refine nw_aload_n C dX3_valueOf_74 rfl 3 rfl ?_
            refine nw_iconst (v := 0) C dX3_valueOf_75 (by decide) ?_
            refine nw_iload C dX3_valueOf_76 0 rfl ?_
            refine nw_sipush (v := 10000) C dX3_valueOf_78 (by decide) ?_
            refine nw_isub C dX3_valueOf_81 ?_
            refine nc_callVI (q0 := 59) (As := [.int 0, .int (r34 - 10000)]) (rest := [.int x3, .ref (ad 47)]) C h (fun _ _ e => c_FTable_get e hφ2) tw_789 kv_X9_get cl_Facts rfl ⟨Nat.le_of_ble_eq_true rfl, Nat.le_of_ble_eq_true rfl⟩ rfl dX3_valueOf_82 rfl (Nat.le_of_ble_eq_true rfl) hφ hφ2 (fun r82 σ82 ta h hφ hφ2 => ?_)
            exact nw_lv (lv' := [(0, .ref (ad 3)), (1, .int x1), (2, .ref (ad 59)), (3, .int x3), (4, .int x4)]) [1, 2, 3, 4, 5] rfl (w_Laws_valueOf_85 C hr x1 x3 x4 x3 r82 ih _ _ hφ hφ2 h)
          · refine nw_iload C dX3_valueOf_69 0 rfl ?_
            refine nw_goto (tgt := 85) C dX3_valueOf_71 (by decide) ?_
            exact nw_lv (lv' := [(0, .ref (ad 3)), (1, .int x1), (2, .ref (ad 59)), (3, .int x3), (4, .int x4)]) [1, 2, 3, 4, 5] rfl (w_Laws_valueOf_85 C hr x1 x3 x4 x3 r34 ih _ _ hφ hφ2 h)
def B_Laws_valueOf_169    (σ : CS) : Option (Int32 × CS) := if (64 : Int32) ≤ 0 then some (0, σ) else gix 0 64 (some ((rd σ 20 0), σ))
set_option maxHeartbeats 4000000 in
set_option maxRecDepth 100000 in
theorem w_Laws_valueOf_169 (C : Cx g p s m args meth c A 6 cX3_valueOf yX3_valueOf.cls) (hr : meth.sig.returnType = (some .int))  {res : Int32 × CS}     (σ : CS) (ta : Nat → Nat) (hφ : φ0 ≤ ph σ.2.2) (hφ2 : ph σ.2.2 ≤ BB) (h : B_Laws_valueOf_169 σ = some res) : NI g p l e s m args below meth c A 1 23 6 ad Rr φ0 res ta σ [(0, .ref (ad 3))] 169 [] := by
  unfold B_Laws_valueOf_169 at h
  refine nw_aload_n C dX3_valueOf_169 rfl 0 rfl ?_
  refine nw_get (v := .ref (ad 47)) C in_X3 3 cl_Laws rfl 4 (by decide) tw_282 rfl rfl dX3_valueOf_170 ?_
  refine nw_alenI C 47 (cl_I 20 rfl) dX3_valueOf_173 ?_
  refine nw_st (st' := [.int 64]) rfl ?_
  refine nw_if_le (tgt := 186) C dX3_valueOf_174 (by decide) h (fun _ h => ?_) (fun _ h => ?_)
  · refine nw_iconst (v := 0) C dX3_valueOf_186 (by decide) ?_
    exact nc_iret C hr dX3_valueOf_187 hφ hφ2 h
  · refine nw_aload_n C dX3_valueOf_177 rfl 0 rfl ?_
    refine nw_get (v := .ref (ad 47)) C in_X3 3 cl_Laws rfl 4 (by decide) tw_282 rfl rfl dX3_valueOf_178 ?_
    refine nw_iconst (v := 0) C dX3_valueOf_181 (by decide) ?_
    refine nw_iald C 47 (cl_I 20 rfl) dX3_valueOf_182 h (fun h => ?_)
    refine nw_goto (tgt := 187) C dX3_valueOf_183 (by decide) ?_
    exact nc_iret C hr dX3_valueOf_187 hφ hφ2 h
def f_Laws_valueOf (p0 : Int32) (σ : CS) : Option (Int32 × CS) := bnd (f_Table_get 4 p0 4 σ) (fun r8 σ8 => L_Laws_valueOf_13 (B_Laws_valueOf_169) p0 FU 0 r8 σ8)
set_option maxHeartbeats 4000000 in
set_option maxRecDepth 100000 in
theorem c_Laws_valueOf {l : Launch} {g : EG} {ad ta : Nat → Nat} {Rr : va_W} {σ σ' : CS} {r : Int32} {p0 : Int32}  (h : f_Laws_valueOf p0 σ = some (r, σ')) (hφ2 : ph σ.2.2 ≤ BB) : CtI l g yX3_valueOf (.code yX3_valueOf cX3_valueOf 6 (some .int)) 1 23 ad ta Rr σ [.ref (ad 3), .int p0, .ref (ad 59)] r σ' := by
  refine Ct.of rfl (by decide) (Nat.le_of_ble_eq_true rfl) ?_
  intro p e s m args below meth c A C hr
  have hφ : ph σ.2.2 ≤ ph σ.2.2 := Nat.le_refl _
  refine nw_zero (ph σ.2.2) ?_
  show NI g p l e s m args below meth c A 1 23 6 ad Rr (ph σ.2.2) (r, σ') ta σ [(0, .ref (ad 3)), (1, .int p0), (2, .ref (ad 59))] 0 []
  unfold f_Laws_valueOf at h
  refine nw_iconst (v := 0) C dX3_valueOf_0 (by decide) ?_
  refine nw_istore_n (lv' := [(3, .int 0), (0, .ref (ad 3)), (1, .int p0), (2, .ref (ad 59))]) C dX3_valueOf_1 rfl (by decide) rfl ?_
  refine nw_aload_n C dX3_valueOf_2 rfl 1 rfl ?_
  refine nw_get (v := .ref (ad 15)) C in_X3 3 cl_Laws rfl 1 (by decide) tw_279 rfl rfl dX3_valueOf_3 ?_
  refine nw_iload_n C dX3_valueOf_6 rfl 2 rfl ?_
  refine nw_iconst (v := 4) C dX3_valueOf_7 (by decide) ?_
  refine nc_callVI (q0 := 15) (As := [.int p0, .int 4]) (rest := []) C h (fun _ _ e => c_Table_get 4 (by decide) e hφ2) tw_789 kv_X9_get (cl_T 4 (by decide)) rfl ⟨Nat.le_of_ble_eq_true rfl, Nat.le_of_ble_eq_true rfl⟩ rfl dX3_valueOf_8 rfl (Nat.le_of_ble_eq_true rfl) hφ hφ2 (fun r8 σ8 ta h hφ hφ2 => ?_)
  refine nw_istore (lv' := [(4, .int r8), (3, .int 0), (0, .ref (ad 3)), (1, .int p0), (2, .ref (ad 59))]) C dX3_valueOf_11 (by decide) rfl ?_
  exact nw_lv (lv' := [(0, .ref (ad 3)), (1, .int p0), (2, .ref (ad 59)), (3, .int 0), (4, .int r8)]) [2, 3, 4, 1, 0] rfl (w_Laws_valueOf_13 C hr p0 (fun σ_ ta_ hφ_ hφ2_ h_ => w_Laws_valueOf_169 C hr σ_ ta_ hφ_ hφ2_ h_) FU 0 r8 _ _ hφ hφ2 h)
theorem dX3_isWithoutIf_0 : decode cX3_isWithoutIf 0 = .ok (.aload_n 0, 1) := by decide +kernel
theorem dX3_isWithoutIf_1 : decode cX3_isWithoutIf 1 = .ok (.getfield 22, 3) := by decide +kernel
theorem dX3_isWithoutIf_4 : decode cX3_isWithoutIf 4 = .ok (.iload_n 1, 1) := by decide +kernel
theorem dX3_isWithoutIf_5 : decode cX3_isWithoutIf 5 = .ok (.iconst 4, 1) := by decide +kernel
theorem dX3_isWithoutIf_6 : decode cX3_isWithoutIf 6 = .ok (.invokevirtual 86, 3) := by decide +kernel
theorem dX3_isWithoutIf_9 : decode cX3_isWithoutIf 9 = .ok (.aload_n 0, 1) := by decide +kernel
theorem dX3_isWithoutIf_10 : decode cX3_isWithoutIf 10 = .ok (.getfield 22, 3) := by decide +kernel
theorem dX3_isWithoutIf_13 : decode cX3_isWithoutIf 13 = .ok (.iload_n 1, 1) := by decide +kernel
theorem dX3_isWithoutIf_14 : decode cX3_isWithoutIf 14 = .ok (.iconst 5, 1) := by decide +kernel
theorem dX3_isWithoutIf_15 : decode cX3_isWithoutIf 15 = .ok (.invokevirtual 86, 3) := by decide +kernel
theorem dX3_isWithoutIf_18 : decode cX3_isWithoutIf 18 = .ok (.if_icmp .ne 7, 3) := by decide +kernel
theorem dX3_isWithoutIf_21 : decode cX3_isWithoutIf 21 = .ok (.iconst 1, 1) := by decide +kernel
theorem dX3_isWithoutIf_22 : decode cX3_isWithoutIf 22 = .ok (.goto 4, 3) := by decide +kernel
theorem dX3_isWithoutIf_25 : decode cX3_isWithoutIf 25 = .ok (.iconst 0, 1) := by decide +kernel
theorem dX3_isWithoutIf_26 : decode cX3_isWithoutIf 26 = .ok (.ireturn, 1) := by decide +kernel
def f_Laws_isWithoutIf (p0 : Int32) (σ : CS) : Option (Int32 × CS) := bnd (f_Table_get 4 p0 4 σ) (fun r6 σ6 => bnd (f_Table_get 4 p0 5 σ6) (fun r15 σ15 => if r6 = r15 then some (1, σ15) else some (0, σ15)))
set_option maxHeartbeats 4000000 in
set_option maxRecDepth 100000 in
theorem c_Laws_isWithoutIf {l : Launch} {g : EG} {ad ta : Nat → Nat} {Rr : va_W} {σ σ' : CS} {r : Int32} {p0 : Int32}  (h : f_Laws_isWithoutIf p0 σ = some (r, σ')) (hφ2 : ph σ.2.2 ≤ BB) : CtI l g yX3_isWithoutIf (.code yX3_isWithoutIf cX3_isWithoutIf 2 (some .boolean)) 1 23 ad ta Rr σ [.ref (ad 3), .int p0] r σ' := by
  refine Ct.of rfl (by decide) (Nat.le_of_ble_eq_true rfl) ?_
  intro p e s m args below meth c A C hr
  have hφ : ph σ.2.2 ≤ ph σ.2.2 := Nat.le_refl _
  refine nw_zero (ph σ.2.2) ?_
  show NI g p l e s m args below meth c A 1 23 2 ad Rr (ph σ.2.2) (r, σ') ta σ [(0, .ref (ad 3)), (1, .int p0)] 0 []
  unfold f_Laws_isWithoutIf at h
  refine nw_aload_n C dX3_isWithoutIf_0 rfl 0 rfl ?_
  refine nw_get (v := .ref (ad 15)) C in_X3 3 cl_Laws rfl 1 (by decide) tw_279 rfl rfl dX3_isWithoutIf_1 ?_
  refine nw_iload_n C dX3_isWithoutIf_4 rfl 1 rfl ?_
  refine nw_iconst (v := 4) C dX3_isWithoutIf_5 (by decide) ?_
  refine nc_callVI (q0 := 15) (As := [.int p0, .int 4]) (rest := []) C h (fun _ _ e => c_Table_get 4 (by decide) e hφ2) tw_789 kv_X9_get (cl_T 4 (by decide)) rfl ⟨Nat.le_of_ble_eq_true rfl, Nat.le_of_ble_eq_true rfl⟩ rfl dX3_isWithoutIf_6 rfl (Nat.le_of_ble_eq_true rfl) hφ hφ2 (fun r6 σ6 ta h hφ hφ2 => ?_)
  refine nw_aload_n C dX3_isWithoutIf_9 rfl 0 rfl ?_
  refine nw_get (v := .ref (ad 15)) C in_X3 3 cl_Laws rfl 1 (by decide) tw_279 rfl rfl dX3_isWithoutIf_10 ?_
  refine nw_iload_n C dX3_isWithoutIf_13 rfl 1 rfl ?_
  refine nw_iconst (v := 5) C dX3_isWithoutIf_14 (by decide) ?_
  refine nc_callVI (q0 := 15) (As := [.int p0, .int 5]) (rest := [.int r6]) C h (fun _ _ e => c_Table_get 4 (by decide) e hφ2) tw_789 kv_X9_get (cl_T 4 (by decide)) rfl ⟨Nat.le_of_ble_eq_true rfl, Nat.le_of_ble_eq_true rfl⟩ rfl dX3_isWithoutIf_15 rfl (Nat.le_of_ble_eq_true rfl) hφ hφ2 (fun r15 σ15 ta h hφ hφ2 => ?_)
  refine nw_icmp_ne (tgt := 25) C dX3_isWithoutIf_18 (by decide) h (fun _ h => ?_) (fun _ h => ?_)
  · refine nw_iconst (v := 1) C dX3_isWithoutIf_21 (by decide) ?_
    refine nw_goto (tgt := 26) C dX3_isWithoutIf_22 (by decide) ?_
    exact nc_zret C hr (Or.inr rfl) dX3_isWithoutIf_26 hφ hφ2 h
  · refine nw_iconst (v := 0) C dX3_isWithoutIf_25 (by decide) ?_
    exact nc_zret C hr (Or.inl rfl) dX3_isWithoutIf_26 hφ hφ2 h
theorem dX3_hear_0 : decode cX3_hear 0 = .ok (.aload_n 0, 1) := by decide +kernel
theorem dX3_hear_1 : decode cX3_hear 1 = .ok (.iload_n 2, 1) := by decide +kernel
theorem dX3_hear_2 : decode cX3_hear 2 = .ok (.invokevirtual 94, 3) := by decide +kernel
theorem dX3_hear_5 : decode cX3_hear 5 = .ok (.istore 4, 2) := by decide +kernel
theorem dX3_hear_7 : decode cX3_hear 7 = .ok (.aload_n 0, 1) := by decide +kernel
theorem dX3_hear_8 : decode cX3_hear 8 = .ok (.iconst (-1), 1) := by decide +kernel
theorem dX3_hear_9 : decode cX3_hear 9 = .ok (.putfield 43, 3) := by decide +kernel
theorem dX3_hear_12 : decode cX3_hear 12 = .ok (.aload_n 0, 1) := by decide +kernel
theorem dX3_hear_13 : decode cX3_hear 13 = .ok (.iconst (-1), 1) := by decide +kernel
theorem dX3_hear_14 : decode cX3_hear 14 = .ok (.putfield 46, 3) := by decide +kernel
theorem dX3_hear_17 : decode cX3_hear 17 = .ok (.iconst 0, 1) := by decide +kernel
theorem dX3_hear_18 : decode cX3_hear 18 = .ok (.istore 5, 2) := by decide +kernel
theorem dX3_hear_20 : decode cX3_hear 20 = .ok (.iload 5, 2) := by decide +kernel
theorem dX3_hear_22 : decode cX3_hear 22 = .ok (.aload_n 0, 1) := by decide +kernel
theorem dX3_hear_23 : decode cX3_hear 23 = .ok (.getfield 22, 3) := by decide +kernel
theorem dX3_hear_26 : decode cX3_hear 26 = .ok (.invokevirtual 53, 3) := by decide +kernel
theorem dX3_hear_29 : decode cX3_hear 29 = .ok (.if_icmp .ge 130, 3) := by decide +kernel
theorem dX3_hear_32 : decode cX3_hear 32 = .ok (.iload 4, 2) := by decide +kernel
theorem dX3_hear_34 : decode cX3_hear 34 = .ok (.aload_n 0, 1) := by decide +kernel
theorem dX3_hear_35 : decode cX3_hear 35 = .ok (.getfield 22, 3) := by decide +kernel
theorem dX3_hear_38 : decode cX3_hear 38 = .ok (.iload 5, 2) := by decide +kernel
theorem dX3_hear_40 : decode cX3_hear 40 = .ok (.iconst 0, 1) := by decide +kernel
theorem dX3_hear_41 : decode cX3_hear 41 = .ok (.invokevirtual 86, 3) := by decide +kernel
theorem dX3_hear_44 : decode cX3_hear 44 = .ok (.ishr, 1) := by decide +kernel
theorem dX3_hear_45 : decode cX3_hear 45 = .ok (.iconst 1, 1) := by decide +kernel
theorem dX3_hear_46 : decode cX3_hear 46 = .ok (.iand, 1) := by decide +kernel
theorem dX3_hear_47 : decode cX3_hear 47 = .ok (.ifCond .eq 106, 3) := by decide +kernel
theorem dX3_hear_50 : decode cX3_hear 50 = .ok (.aload_n 0, 1) := by decide +kernel
theorem dX3_hear_51 : decode cX3_hear 51 = .ok (.getfield 22, 3) := by decide +kernel
theorem dX3_hear_54 : decode cX3_hear 54 = .ok (.iload 5, 2) := by decide +kernel
theorem dX3_hear_56 : decode cX3_hear 56 = .ok (.iconst 3, 1) := by decide +kernel
theorem dX3_hear_57 : decode cX3_hear 57 = .ok (.invokevirtual 86, 3) := by decide +kernel
theorem dX3_hear_60 : decode cX3_hear 60 = .ok (.iload_n 1, 1) := by decide +kernel
theorem dX3_hear_61 : decode cX3_hear 61 = .ok (.if_icmp .eq 6, 3) := by decide +kernel
theorem dX3_hear_64 : decode cX3_hear 64 = .ok (.goto 89, 3) := by decide +kernel
theorem dX3_hear_67 : decode cX3_hear 67 = .ok (.aload_n 0, 1) := by decide +kernel
theorem dX3_hear_68 : decode cX3_hear 68 = .ok (.getfield 22, 3) := by decide +kernel
theorem dX3_hear_71 : decode cX3_hear 71 = .ok (.iload 5, 2) := by decide +kernel
theorem dX3_hear_73 : decode cX3_hear 73 = .ok (.iconst 2, 1) := by decide +kernel
theorem dX3_hear_74 : decode cX3_hear 74 = .ok (.invokevirtual 86, 3) := by decide +kernel
theorem dX3_hear_77 : decode cX3_hear 77 = .ok (.istore 6, 2) := by decide +kernel
theorem dX3_hear_79 : decode cX3_hear 79 = .ok (.iload 6, 2) := by decide +kernel
theorem dX3_hear_81 : decode cX3_hear 81 = .ok (.iconst 2, 1) := by decide +kernel
theorem dX3_hear_82 : decode cX3_hear 82 = .ok (.if_icmp .ne 16, 3) := by decide +kernel
theorem dX3_hear_85 : decode cX3_hear 85 = .ok (.aload_n 0, 1) := by decide +kernel
theorem dX3_hear_86 : decode cX3_hear 86 = .ok (.iconst (-1), 1) := by decide +kernel
theorem dX3_hear_87 : decode cX3_hear 87 = .ok (.putfield 43, 3) := by decide +kernel
theorem dX3_hear_90 : decode cX3_hear 90 = .ok (.aload_n 0, 1) := by decide +kernel
theorem dX3_hear_91 : decode cX3_hear 91 = .ok (.iconst (-1), 1) := by decide +kernel
theorem dX3_hear_92 : decode cX3_hear 92 = .ok (.putfield 46, 3) := by decide +kernel
theorem dX3_hear_95 : decode cX3_hear 95 = .ok (.goto 58, 3) := by decide +kernel
theorem dX3_hear_98 : decode cX3_hear 98 = .ok (.iload 6, 2) := by decide +kernel
theorem dX3_hear_100 : decode cX3_hear 100 = .ok (.iconst 3, 1) := by decide +kernel
theorem dX3_hear_101 : decode cX3_hear 101 = .ok (.if_icmp .ne 27, 3) := by decide +kernel
theorem dX3_hear_104 : decode cX3_hear 104 = .ok (.aload_n 0, 1) := by decide +kernel
theorem dX3_hear_105 : decode cX3_hear 105 = .ok (.iconst 0, 1) := by decide +kernel
theorem dX3_hear_106 : decode cX3_hear 106 = .ok (.sipush 10000, 3) := by decide +kernel
theorem dX3_hear_109 : decode cX3_hear 109 = .ok (.aload_n 0, 1) := by decide +kernel
theorem dX3_hear_110 : decode cX3_hear 110 = .ok (.iload 5, 2) := by decide +kernel
theorem dX3_hear_112 : decode cX3_hear 112 = .ok (.aload_n 3, 1) := by decide +kernel
theorem dX3_hear_113 : decode cX3_hear 113 = .ok (.invokevirtual 98, 3) := by decide +kernel
theorem dX3_hear_116 : decode cX3_hear 116 = .ok (.invokestatic 102, 3) := by decide +kernel
theorem dX3_hear_119 : decode cX3_hear 119 = .ok (.invokestatic 107, 3) := by decide +kernel
theorem dX3_hear_122 : decode cX3_hear 122 = .ok (.putfield 46, 3) := by decide +kernel
theorem dX3_hear_125 : decode cX3_hear 125 = .ok (.goto 28, 3) := by decide +kernel
theorem dX3_hear_128 : decode cX3_hear 128 = .ok (.aload_n 0, 1) := by decide +kernel
theorem dX3_hear_129 : decode cX3_hear 129 = .ok (.iload 5, 2) := by decide +kernel
theorem dX3_hear_131 : decode cX3_hear 131 = .ok (.invokevirtual 110, 3) := by decide +kernel
theorem dX3_hear_134 : decode cX3_hear 134 = .ok (.ifCond .ne 13, 3) := by decide +kernel
theorem dX3_hear_137 : decode cX3_hear 137 = .ok (.aload_n 0, 1) := by decide +kernel
theorem dX3_hear_138 : decode cX3_hear 138 = .ok (.iload 5, 2) := by decide +kernel
theorem dX3_hear_140 : decode cX3_hear 140 = .ok (.aload_n 3, 1) := by decide +kernel
theorem dX3_hear_141 : decode cX3_hear 141 = .ok (.invokevirtual 98, 3) := by decide +kernel
theorem dX3_hear_144 : decode cX3_hear 144 = .ok (.ifCond .eq 9, 3) := by decide +kernel
theorem dX3_hear_147 : decode cX3_hear 147 = .ok (.aload_n 0, 1) := by decide +kernel
theorem dX3_hear_148 : decode cX3_hear 148 = .ok (.iload 5, 2) := by decide +kernel
theorem dX3_hear_150 : decode cX3_hear 150 = .ok (.putfield 43, 3) := by decide +kernel
theorem dX3_hear_153 : decode cX3_hear 153 = .ok (.iinc 5 1, 3) := by decide +kernel
theorem dX3_hear_156 : decode cX3_hear 156 = .ok (.goto (-136), 3) := by decide +kernel
theorem dX3_hear_159 : decode cX3_hear 159 = .ok (.return_, 1) := by decide +kernel
def B_Laws_hear_147 (k20 : Int32 → CS → Option (Int32 × CS)) (x1 : Int32) (x4 : Int32) (x5 : Int32) (σ : CS) : Option (Int32 × CS) := k20 (x5 + 1) (sF σ 53 x5)
set_option maxHeartbeats 4000000 in
set_option maxRecDepth 100000 in
theorem w_Laws_hear_147 (C : Cx g p s m args meth c A 7 cX3_hear yX3_hear.cls) (hr : meth.sig.returnType = none)  {res : Int32 × CS}  (x1 : Int32) (x4 : Int32) (x5 : Int32) {k20 : Int32 → CS → Option (Int32 × CS)} (hk20 : ∀ (x5 : Int32) (σ : CS) (ta : Nat → Nat), φ0 ≤ ph σ.2.2 → ph σ.2.2 ≤ BB → k20 x5 σ = some res → NV g p l e s m args below meth c A 2 48 7 ad Rr φ0 res ta σ [(0, .ref (ad 3)), (1, .int x1), (3, .ref (ad 59)), (4, .int x4), (5, .int x5)] 20 []) (σ : CS) (ta : Nat → Nat) (hφ : φ0 ≤ ph σ.2.2) (hφ2 : ph σ.2.2 ≤ BB) (h : B_Laws_hear_147 k20 x1 x4 x5 σ = some res) : NV g p l e s m args below meth c A 2 48 7 ad Rr φ0 res ta σ [(0, .ref (ad 3)), (1, .int x1), (3, .ref (ad 59)), (4, .int x4), (5, .int x5)] 147 [] := by
  unfold B_Laws_hear_147 at h
  refine nw_aload_n C dX3_hear_147 rfl 0 rfl ?_
  refine nw_iload C dX3_hear_148 4 rfl ?_
  refine nw_put (ty := .int) C in_X3 3 cl_Laws rfl 6 (by decide) tyX3 tyX3_ok nmX3 tw_285 rfl rfl (by decide +kernel) rfl rfl (Nat.le_of_ble_eq_true rfl) dX3_hear_150 cs_Laws_word ?_
  refine nw_iinc (lv' := [(5, .int (x5 + 1)), (0, .ref (ad 3)), (1, .int x1), (3, .ref (ad 59)), (4, .int x4)]) C (x5 + 1) dX3_hear_153 4 rfl rfl (by decide) rfl ?_
  refine nw_goto (tgt := 20) C dX3_hear_156 (by decide) ?_
  exact nw_lv (lv' := [(0, .ref (ad 3)), (1, .int x1), (3, .ref (ad 59)), (4, .int x4), (5, .int (x5 + 1))]) [1, 2, 3, 4, 0] rfl (hk20 (x5 + 1) _ _ hφ hφ2 h)
def L_Laws_hear_20  (x1 : Int32) (x4 : Int32) : Nat → Int32 → CS → Option (Int32 × CS)
  | 0, _, _ => none
  | n + 1, x5, σ => bnd (f_Table_size 4 σ) (fun r26 σ26 => if r26 ≤ x5 then some (0, σ26) else bnd (f_Table_get 4 x5 0 σ26) (fun r41 σ41 => if ((x4 >>> (r41 &&& 31)) &&& 1) = 0 then (L_Laws_hear_20 x1 x4 n) (x5 + 1) σ41 else bnd (f_Table_get 4 x5 3 σ41) (fun r57 σ57 => if r57 = x1 then bnd (f_Table_get 4 x5 2 σ57) (fun r74 σ74 => if r74 = 2 then (L_Laws_hear_20 x1 x4 n) (x5 + 1) (sF (sF σ74 53 (-1)) 54 (-1)) else if r74 = 3 then bnd (f_Laws_valueOf x5 σ74) (fun r113 σ113 => (L_Laws_hear_20 x1 x4 n) (x5 + 1) (sF σ113 54 (if 0 < (if r113 < 10000 then r113 else 10000) then (if r113 < 10000 then r113 else 10000) else 0))) else bnd (f_Laws_isWithoutIf x5 σ74) (fun r131 σ131 => if r131 = 0 then bnd (f_Laws_valueOf x5 σ131) (fun r141 σ141 => if r141 = 0 then (L_Laws_hear_20 x1 x4 n) (x5 + 1) σ141 else B_Laws_hear_147 (L_Laws_hear_20 x1 x4 n) x1 x4 x5 σ141) else B_Laws_hear_147 (L_Laws_hear_20 x1 x4 n) x1 x4 x5 σ131)) else (L_Laws_hear_20 x1 x4 n) (x5 + 1) σ57)))
set_option maxHeartbeats 4000000 in
set_option maxRecDepth 100000 in
theorem w_Laws_hear_20 (C : Cx g p s m args meth c A 7 cX3_hear yX3_hear.cls) (hr : meth.sig.returnType = none)  {res : Int32 × CS}  (x1 : Int32) (x4 : Int32)  : ∀ (n : Nat) (x5 : Int32) (σ : CS) (ta : Nat → Nat), φ0 ≤ ph σ.2.2 → ph σ.2.2 ≤ BB → L_Laws_hear_20 x1 x4 n x5 σ = some res → NV g p l e s m args below meth c A 2 48 7 ad Rr φ0 res ta σ [(0, .ref (ad 3)), (1, .int x1), (3, .ref (ad 59)), (4, .int x4), (5, .int x5)] 20 [] := by
  intro n
  induction n with
  | zero =>
    intro x5 σ ta hφ hφ2 h
    exact absurd (show (none : Option (Int32 × CS)) = some res from h) (by intro h9; cases h9)
  | succ n ih =>
    intro x5 σ ta hφ hφ2 h
    rw [L_Laws_hear_20] at h
    refine nw_iload C dX3_hear_20 4 rfl ?_
    refine nw_aload_n C dX3_hear_22 rfl 0 rfl ?_
    refine nw_get (v := .ref (ad 15)) C in_X3 3 cl_Laws rfl 1 (by decide) tw_279 rfl rfl dX3_hear_23 ?_
    refine nc_callVI (q0 := 15) (As := []) (rest := [.int x5]) C h (fun _ _ e => c_Table_size 4 (by decide) e hφ2) tw_788 kv_X9_size (cl_T 4 (by decide)) rfl ⟨Nat.le_of_ble_eq_true rfl, Nat.le_of_ble_eq_true rfl⟩ rfl dX3_hear_26 rfl (Nat.le_of_ble_eq_true rfl) hφ hφ2 (fun r26 σ26 ta h hφ hφ2 => ?_)
    refine nw_icmp_ge (tgt := 159) C dX3_hear_29 (by decide) h (fun _ h => ?_) (fun _ h => ?_)
    · exact nc_vret C hr dX3_hear_159 hφ hφ2 h
    · refine nw_iload C dX3_hear_32 3 rfl ?_
      refine nw_aload_n C dX3_hear_34 rfl 0 rfl ?_
      refine nw_get (v := .ref (ad 15)) C in_X3 3 cl_Laws rfl 1 (by decide) tw_279 rfl rfl dX3_hear_35 ?_
      refine nw_iload C dX3_hear_38 4 rfl ?_
      refine nw_iconst (v := 0) C dX3_hear_40 (by decide) ?_
      refine nc_callVI (q0 := 15) (As := [.int x5, .int 0]) (rest := [.int x4]) C h (fun _ _ e => c_Table_get 4 (by decide) e hφ2) tw_789 kv_X9_get (cl_T 4 (by decide)) rfl ⟨Nat.le_of_ble_eq_true rfl, Nat.le_of_ble_eq_true rfl⟩ rfl dX3_hear_41 rfl (Nat.le_of_ble_eq_true rfl) hφ hφ2 (fun r41 σ41 ta h hφ hφ2 => ?_)
      refine nw_ishr C dX3_hear_44 ?_
      refine nw_iconst (v := 1) C dX3_hear_45 (by decide) ?_
      refine nw_iand C dX3_hear_46 ?_
      refine nw_if_eq (tgt := 153) C dX3_hear_47 (by decide) h (fun _ h => ?_) (fun _ h => ?_)
      · refine nw_iinc (lv' := [(5, .int (x5 + 1)), (0, .ref (ad 3)), (1, .int x1), (3, .ref (ad 59)), (4, .int x4)]) C (x5 + 1) dX3_hear_153 4 rfl rfl (by decide) rfl ?_
        refine nw_goto (tgt := 20) C dX3_hear_156 (by decide) ?_
        exact nw_lv (lv' := [(0, .ref (ad 3)), (1, .int x1), (3, .ref (ad 59)), (4, .int x4), (5, .int (x5 + 1))]) [1, 2, 3, 4, 0] rfl (ih (x5 + 1) _ _ hφ hφ2 h)
      · refine nw_aload_n C dX3_hear_50 rfl 0 rfl ?_
        refine nw_get (v := .ref (ad 15)) C in_X3 3 cl_Laws rfl 1 (by decide) tw_279 rfl rfl dX3_hear_51 ?_
        refine nw_iload C dX3_hear_54 4 rfl ?_
        refine nw_iconst (v := 3) C dX3_hear_56 (by decide) ?_
        refine nc_callVI (q0 := 15) (As := [.int x5, .int 3]) (rest := []) C h (fun _ _ e => c_Table_get 4 (by decide) e hφ2) tw_789 kv_X9_get (cl_T 4 (by decide)) rfl ⟨Nat.le_of_ble_eq_true rfl, Nat.le_of_ble_eq_true rfl⟩ rfl dX3_hear_57 rfl (Nat.le_of_ble_eq_true rfl) hφ hφ2 (fun r57 σ57 ta h hφ hφ2 => ?_)
        refine nw_iload_n C dX3_hear_60 rfl 1 rfl ?_
        refine nw_icmp_eq (tgt := 67) C dX3_hear_61 (by decide) h (fun _ h => ?_) (fun _ h => ?_)
        · refine nw_aload_n C dX3_hear_67 rfl 0 rfl ?_
          refine nw_get (v := .ref (ad 15)) C in_X3 3 cl_Laws rfl 1 (by decide) tw_279 rfl rfl dX3_hear_68 ?_
          refine nw_iload C dX3_hear_71 4 rfl ?_
          refine nw_iconst (v := 2) C dX3_hear_73 (by decide) ?_
          refine nc_callVI (q0 := 15) (As := [.int x5, .int 2]) (rest := []) C h (fun _ _ e => c_Table_get 4 (by decide) e hφ2) tw_789 kv_X9_get (cl_T 4 (by decide)) rfl ⟨Nat.le_of_ble_eq_true rfl, Nat.le_of_ble_eq_true rfl⟩ rfl dX3_hear_74 rfl (Nat.le_of_ble_eq_true rfl) hφ hφ2 (fun r74 σ74 ta h hφ hφ2 => ?_)
          refine nw_istore (lv' := [(6, .int r74), (0, .ref (ad 3)), (1, .int x1), (3, .ref (ad 59)), (4, .int x4), (5, .int x5)]) C dX3_hear_77 (by decide) rfl ?_
          refine nw_iload C dX3_hear_79 0 rfl ?_
          refine nw_iconst (v := 2) C dX3_hear_81 (by decide) ?_
          refine nw_icmp_ne (tgt := 98) C dX3_hear_82 (by decide) h (fun _ h => ?_) (fun _ h => ?_)
          · refine nw_aload_n C dX3_hear_85 rfl 1 rfl ?_
            refine nw_iconst (v := (-1)) C dX3_hear_86 (by decide) ?_
            refine nw_put (ty := .int) C in_X3 3 cl_Laws rfl 6 (by decide) tyX3 tyX3_ok nmX3 tw_285 rfl rfl (by decide +kernel) rfl rfl (Nat.le_of_ble_eq_true rfl) dX3_hear_87 cs_Laws_word ?_
            refine nw_aload_n C dX3_hear_90 rfl 1 rfl ?_
            refine nw_iconst (v := (-1)) C dX3_hear_91 (by decide) ?_
            refine nw_put (ty := .int) C in_X3 3 cl_Laws rfl 7 (by decide) tyX3 tyX3_ok nmX3 tw_286 rfl rfl (by decide +kernel) rfl rfl (Nat.le_of_ble_eq_true rfl) dX3_hear_92 cs_Laws_saidFine ?_
            refine nw_goto (tgt := 153) C dX3_hear_95 (by decide) ?_
            refine nw_iinc (lv' := [(5, .int (x5 + 1)), (6, .int r74), (0, .ref (ad 3)), (1, .int x1), (3, .ref (ad 59)), (4, .int x4)]) C (x5 + 1) dX3_hear_153 5 rfl rfl (by decide) rfl ?_
            refine nw_goto (tgt := 20) C dX3_hear_156 (by decide) ?_
            exact nw_lv (lv' := [(0, .ref (ad 3)), (1, .int x1), (3, .ref (ad 59)), (4, .int x4), (5, .int (x5 + 1))]) [2, 3, 4, 5, 0] rfl (ih (x5 + 1) _ _ hφ hφ2 h)
          · refine nw_iload C dX3_hear_98 0 rfl ?_
            refine nw_iconst (v := 3) C dX3_hear_100 (by decide) ?_
            refine nw_icmp_ne (tgt := 128) C dX3_hear_101 (by decide) h (fun _ h => ?_) (fun _ h => ?_)
            · refine nw_aload_n C dX3_hear_104 rfl 1 rfl ?_
              refine nw_iconst (v := 0) C dX3_hear_105 (by decide) ?_
              refine nw_sipush (v := 10000) C dX3_hear_106 (by decide) ?_
              refine nw_aload_n C dX3_hear_109 rfl 1 rfl ?_
              refine nw_iload C dX3_hear_110 5 rfl ?_
              refine nw_aload_n C dX3_hear_112 rfl 3 rfl ?_
              refine nc_callVI (q0 := 3) (As := [.int x5, .ref (ad 59)]) (rest := [.int 10000, .int 0, .ref (ad 3)]) C h (fun _ _ e => c_Laws_valueOf e hφ2) tw_869 kv_X3_valueOf cl_Laws rfl ⟨Nat.le_of_ble_eq_true rfl, Nat.le_of_ble_eq_true rfl⟩ rfl dX3_hear_113 rfl (Nat.le_of_ble_eq_true rfl) hφ hφ2 (fun r113 σ113 ta h hφ hφ2 => ?_)
              refine nw_mmin C tw_876 tw_367 tw_125 tm_min (Nat.le_of_ble_eq_true rfl) (Nat.le_of_ble_eq_true rfl) (Nat.sub_le_sub_right hφ2 _) (Nat.mul_le_mul_left 2 (Nat.sub_le_sub_right hφ2 _)) dX3_hear_116 ?_
              refine nw_mmax C tw_877 tw_165 tw_125 tm_max (Nat.le_of_ble_eq_true rfl) (Nat.le_of_ble_eq_true rfl) (Nat.sub_le_sub_right hφ2 _) (Nat.mul_le_mul_left 2 (Nat.sub_le_sub_right hφ2 _)) dX3_hear_119 ?_
              refine nw_put (ty := .int) C in_X3 3 cl_Laws rfl 7 (by decide) tyX3 tyX3_ok nmX3 tw_286 rfl rfl (by decide +kernel) rfl rfl (Nat.le_of_ble_eq_true rfl) dX3_hear_122 cs_Laws_saidFine ?_
              refine nw_goto (tgt := 153) C dX3_hear_125 (by decide) ?_
              refine nw_iinc (lv' := [(5, .int (x5 + 1)), (6, .int r74), (0, .ref (ad 3)), (1, .int x1), (3, .ref (ad 59)), (4, .int x4)]) C (x5 + 1) dX3_hear_153 5 rfl rfl (by decide) rfl ?_
              refine nw_goto (tgt := 20) C dX3_hear_156 (by decide) ?_
              exact nw_lv (lv' := [(0, .ref (ad 3)), (1, .int x1), (3, .ref (ad 59)), (4, .int x4), (5, .int (x5 + 1))]) [2, 3, 4, 5, 0] rfl (ih (x5 + 1) _ _ hφ hφ2 h)
            · refine nw_aload_n C dX3_hear_128 rfl 1 rfl ?_
              refine nw_iload C dX3_hear_129 5 rfl ?_
              refine nc_callVI (q0 := 3) (As := [.int x5]) (rest := []) C h (fun _ _ e => c_Laws_isWithoutIf e hφ2) tw_878 kv_X3_isWithoutIf cl_Laws rfl ⟨Nat.le_of_ble_eq_true rfl, Nat.le_of_ble_eq_true rfl⟩ rfl dX3_hear_131 rfl (Nat.le_of_ble_eq_true rfl) hφ hφ2 (fun r131 σ131 ta h hφ hφ2 => ?_)
              refine nw_if_ne (tgt := 147) C dX3_hear_134 (by decide) h (fun _ h => ?_) (fun _ h => ?_)
              · refine nw_aload_n C dX3_hear_137 rfl 1 rfl ?_
                refine nw_iload C dX3_hear_138 5 rfl ?_
                refine nw_aload_n C dX3_hear_140 rfl 3 rfl ?_
                refine nc_callVI (q0 := 3) (As := [.int x5, .ref (ad 59)]) (rest := []) C h (fun _ _ e => c_Laws_valueOf e hφ2) tw_869 kv_X3_valueOf cl_Laws rfl ⟨Nat.le_of_ble_eq_true rfl, Nat.le_of_ble_eq_true rfl⟩ rfl dX3_hear_141 rfl (Nat.le_of_ble_eq_true rfl) hφ hφ2 (fun r141 σ141 ta h hφ hφ2 => ?_)
                refine nw_if_eq (tgt := 153) C dX3_hear_144 (by decide) h (fun _ h => ?_) (fun _ h => ?_)
                · refine nw_iinc (lv' := [(5, .int (x5 + 1)), (6, .int r74), (0, .ref (ad 3)), (1, .int x1), (3, .ref (ad 59)), (4, .int x4)]) C (x5 + 1) dX3_hear_153 5 rfl rfl (by decide) rfl ?_
                  refine nw_goto (tgt := 20) C dX3_hear_156 (by decide) ?_
                  exact nw_lv (lv' := [(0, .ref (ad 3)), (1, .int x1), (3, .ref (ad 59)), (4, .int x4), (5, .int (x5 + 1))]) [2, 3, 4, 5, 0] rfl (ih (x5 + 1) _ _ hφ hφ2 h)
                · exact nw_lv (lv' := [(0, .ref (ad 3)), (1, .int x1), (3, .ref (ad 59)), (4, .int x4), (5, .int x5)]) [1, 2, 3, 4, 5] rfl (w_Laws_hear_147 C hr x1 x4 x5 ih _ _ hφ hφ2 h)
              · exact nw_lv (lv' := [(0, .ref (ad 3)), (1, .int x1), (3, .ref (ad 59)), (4, .int x4), (5, .int x5)]) [1, 2, 3, 4, 5] rfl (w_Laws_hear_147 C hr x1 x4 x5 ih _ _ hφ hφ2 h)
        · refine nw_goto (tgt := 153) C dX3_hear_64 (by decide) ?_
          refine nw_iinc (lv' := [(5, .int (x5 + 1)), (0, .ref (ad 3)), (1, .int x1), (3, .ref (ad 59)), (4, .int x4)]) C (x5 + 1) dX3_hear_153 4 rfl rfl (by decide) rfl ?_
          refine nw_goto (tgt := 20) C dX3_hear_156 (by decide) ?_
          exact nw_lv (lv' := [(0, .ref (ad 3)), (1, .int x1), (3, .ref (ad 59)), (4, .int x4), (5, .int (x5 + 1))]) [1, 2, 3, 4, 0] rfl (ih (x5 + 1) _ _ hφ hφ2 h)
def f_Laws_hear (p0 : Int32) (p1 : Int32) (σ : CS) : Option (Int32 × CS) := bnd (f_Laws_forceOn p1 σ) (fun r2 σ2 => L_Laws_hear_20 p0 r2 FU 0 (sF (sF σ2 53 (-1)) 54 (-1)))
set_option maxHeartbeats 4000000 in
set_option maxRecDepth 100000 in
theorem c_Laws_hear {l : Launch} {g : EG} {ad ta : Nat → Nat} {Rr : va_W} {σ σ' : CS} {r : Int32} {p0 : Int32} {p1 : Int32}  (h : f_Laws_hear p0 p1 σ = some (r, σ')) (hφ2 : ph σ.2.2 ≤ BB) : CtV l g yX3_hear (.code yX3_hear cX3_hear 7 none) 2 48 ad ta Rr σ [.ref (ad 3), .int p0, .int p1, .ref (ad 59)] r σ' := by
  refine Ct.of rfl (by decide) (Nat.le_of_ble_eq_true rfl) ?_
  intro p e s m args below meth c A C hr
  have hφ : ph σ.2.2 ≤ ph σ.2.2 := Nat.le_refl _
  refine nw_zero (ph σ.2.2) ?_
  show NV g p l e s m args below meth c A 2 48 7 ad Rr (ph σ.2.2) (r, σ') ta σ [(0, .ref (ad 3)), (1, .int p0), (2, .int p1), (3, .ref (ad 59))] 0 []
  unfold f_Laws_hear at h
  refine nw_aload_n C dX3_hear_0 rfl 0 rfl ?_
  refine nw_iload_n C dX3_hear_1 rfl 2 rfl ?_
  refine nc_callVI (q0 := 3) (As := [.int p1]) (rest := []) C h (fun _ _ e => c_Laws_forceOn e hφ2) tw_784 kv_X3_forceOn cl_Laws rfl ⟨Nat.le_of_ble_eq_true rfl, Nat.le_of_ble_eq_true rfl⟩ rfl dX3_hear_2 rfl (Nat.le_of_ble_eq_true rfl) hφ hφ2 (fun r2 σ2 ta h hφ hφ2 => ?_)
  refine nw_istore (lv' := [(4, .int r2), (0, .ref (ad 3)), (1, .int p0), (2, .int p1), (3, .ref (ad 59))]) C dX3_hear_5 (by decide) rfl ?_
  refine nw_aload_n C dX3_hear_7 rfl 1 rfl ?_
  refine nw_iconst (v := (-1)) C dX3_hear_8 (by decide) ?_
  refine nw_put (ty := .int) C in_X3 3 cl_Laws rfl 6 (by decide) tyX3 tyX3_ok nmX3 tw_285 rfl rfl (by decide +kernel) rfl rfl (Nat.le_of_ble_eq_true rfl) dX3_hear_9 cs_Laws_word ?_
  refine nw_aload_n C dX3_hear_12 rfl 1 rfl ?_
  refine nw_iconst (v := (-1)) C dX3_hear_13 (by decide) ?_
  refine nw_put (ty := .int) C in_X3 3 cl_Laws rfl 7 (by decide) tyX3 tyX3_ok nmX3 tw_286 rfl rfl (by decide +kernel) rfl rfl (Nat.le_of_ble_eq_true rfl) dX3_hear_14 cs_Laws_saidFine ?_
  refine nw_iconst (v := 0) C dX3_hear_17 (by decide) ?_
  refine nw_istore (lv' := [(5, .int 0), (4, .int r2), (0, .ref (ad 3)), (1, .int p0), (2, .int p1), (3, .ref (ad 59))]) C dX3_hear_18 (by decide) rfl ?_
  exact nw_lv (lv' := [(0, .ref (ad 3)), (1, .int p0), (3, .ref (ad 59)), (4, .int r2), (5, .int 0)]) [2, 3, 5, 1, 0] rfl (w_Laws_hear_20 C hr p0 r2 FU 0 _ _ hφ hφ2 h)
theorem dX1_hearLaws_0 : decode cX1_hearLaws 0 = .ok (.aload_n 0, 1) := by decide +kernel
theorem dX1_hearLaws_1 : decode cX1_hearLaws 1 = .ok (.getfield 36, 3) := by decide +kernel
theorem dX1_hearLaws_4 : decode cX1_hearLaws 4 = .ok (.iload_n 1, 1) := by decide +kernel
theorem dX1_hearLaws_5 : decode cX1_hearLaws 5 = .ok (.iconst 4, 1) := by decide +kernel
theorem dX1_hearLaws_6 : decode cX1_hearLaws 6 = .ok (.invokevirtual 57, 3) := by decide +kernel
theorem dX1_hearLaws_9 : decode cX1_hearLaws 9 = .ok (.istore_n 2, 1) := by decide +kernel
theorem dX1_hearLaws_10 : decode cX1_hearLaws 10 = .ok (.aload_n 0, 1) := by decide +kernel
theorem dX1_hearLaws_11 : decode cX1_hearLaws 11 = .ok (.getfield 9, 3) := by decide +kernel
theorem dX1_hearLaws_14 : decode cX1_hearLaws 14 = .ok (.iload_n 2, 1) := by decide +kernel
theorem dX1_hearLaws_15 : decode cX1_hearLaws 15 = .ok (.aload_n 0, 1) := by decide +kernel
theorem dX1_hearLaws_16 : decode cX1_hearLaws 16 = .ok (.getfield 36, 3) := by decide +kernel
theorem dX1_hearLaws_19 : decode cX1_hearLaws 19 = .ok (.iload_n 1, 1) := by decide +kernel
theorem dX1_hearLaws_20 : decode cX1_hearLaws 20 = .ok (.iconst 2, 1) := by decide +kernel
theorem dX1_hearLaws_21 : decode cX1_hearLaws 21 = .ok (.invokevirtual 57, 3) := by decide +kernel
theorem dX1_hearLaws_24 : decode cX1_hearLaws 24 = .ok (.aload_n 0, 1) := by decide +kernel
theorem dX1_hearLaws_25 : decode cX1_hearLaws 25 = .ok (.getfield 36, 3) := by decide +kernel
theorem dX1_hearLaws_28 : decode cX1_hearLaws 28 = .ok (.iload_n 1, 1) := by decide +kernel
theorem dX1_hearLaws_29 : decode cX1_hearLaws 29 = .ok (.iconst 3, 1) := by decide +kernel
theorem dX1_hearLaws_30 : decode cX1_hearLaws 30 = .ok (.invokevirtual 57, 3) := by decide +kernel
theorem dX1_hearLaws_33 : decode cX1_hearLaws 33 = .ok (.invokevirtual 61, 3) := by decide +kernel
theorem dX1_hearLaws_36 : decode cX1_hearLaws 36 = .ok (.istore_n 3, 1) := by decide +kernel
theorem dX1_hearLaws_37 : decode cX1_hearLaws 37 = .ok (.aload_n 0, 1) := by decide +kernel
theorem dX1_hearLaws_38 : decode cX1_hearLaws 38 = .ok (.getfield 42, 3) := by decide +kernel
theorem dX1_hearLaws_41 : decode cX1_hearLaws 41 = .ok (.iconst 0, 1) := by decide +kernel
theorem dX1_hearLaws_42 : decode cX1_hearLaws 42 = .ok (.iconst 0, 1) := by decide +kernel
theorem dX1_hearLaws_43 : decode cX1_hearLaws 43 = .ok (.aload_n 0, 1) := by decide +kernel
theorem dX1_hearLaws_44 : decode cX1_hearLaws 44 = .ok (.getfield 36, 3) := by decide +kernel
theorem dX1_hearLaws_47 : decode cX1_hearLaws 47 = .ok (.iload_n 1, 1) := by decide +kernel
theorem dX1_hearLaws_48 : decode cX1_hearLaws 48 = .ok (.iconst 5, 1) := by decide +kernel
theorem dX1_hearLaws_49 : decode cX1_hearLaws 49 = .ok (.invokevirtual 57, 3) := by decide +kernel
theorem dX1_hearLaws_52 : decode cX1_hearLaws 52 = .ok (.invokevirtual 53, 3) := by decide +kernel
theorem dX1_hearLaws_55 : decode cX1_hearLaws 55 = .ok (.aload_n 0, 1) := by decide +kernel
theorem dX1_hearLaws_56 : decode cX1_hearLaws 56 = .ok (.getfield 42, 3) := by decide +kernel
theorem dX1_hearLaws_59 : decode cX1_hearLaws 59 = .ok (.iconst 0, 1) := by decide +kernel
theorem dX1_hearLaws_60 : decode cX1_hearLaws 60 = .ok (.iconst 1, 1) := by decide +kernel
theorem dX1_hearLaws_61 : decode cX1_hearLaws 61 = .ok (.iload_n 2, 1) := by decide +kernel
theorem dX1_hearLaws_62 : decode cX1_hearLaws 62 = .ok (.bipush 30, 2) := by decide +kernel
theorem dX1_hearLaws_64 : decode cX1_hearLaws 64 = .ok (.idiv, 1) := by decide +kernel
theorem dX1_hearLaws_65 : decode cX1_hearLaws 65 = .ok (.bipush 12, 2) := by decide +kernel
theorem dX1_hearLaws_67 : decode cX1_hearLaws 67 = .ok (.irem, 1) := by decide +kernel
theorem dX1_hearLaws_68 : decode cX1_hearLaws 68 = .ok (.invokevirtual 53, 3) := by decide +kernel
theorem dX1_hearLaws_71 : decode cX1_hearLaws 71 = .ok (.aload_n 0, 1) := by decide +kernel
theorem dX1_hearLaws_72 : decode cX1_hearLaws 72 = .ok (.getfield 42, 3) := by decide +kernel
theorem dX1_hearLaws_75 : decode cX1_hearLaws 75 = .ok (.iconst 0, 1) := by decide +kernel
theorem dX1_hearLaws_76 : decode cX1_hearLaws 76 = .ok (.iconst 2, 1) := by decide +kernel
theorem dX1_hearLaws_77 : decode cX1_hearLaws 77 = .ok (.aload_n 0, 1) := by decide +kernel
theorem dX1_hearLaws_78 : decode cX1_hearLaws 78 = .ok (.getfield 19, 3) := by decide +kernel
theorem dX1_hearLaws_81 : decode cX1_hearLaws 81 = .ok (.getfield 67, 3) := by decide +kernel
theorem dX1_hearLaws_84 : decode cX1_hearLaws 84 = .ok (.aload_n 0, 1) := by decide +kernel
theorem dX1_hearLaws_85 : decode cX1_hearLaws 85 = .ok (.getfield 36, 3) := by decide +kernel
theorem dX1_hearLaws_88 : decode cX1_hearLaws 88 = .ok (.iload_n 1, 1) := by decide +kernel
theorem dX1_hearLaws_89 : decode cX1_hearLaws 89 = .ok (.iconst 0, 1) := by decide +kernel
theorem dX1_hearLaws_90 : decode cX1_hearLaws 90 = .ok (.invokevirtual 57, 3) := by decide +kernel
theorem dX1_hearLaws_93 : decode cX1_hearLaws 93 = .ok (.iconst 0, 1) := by decide +kernel
theorem dX1_hearLaws_94 : decode cX1_hearLaws 94 = .ok (.invokevirtual 57, 3) := by decide +kernel
theorem dX1_hearLaws_97 : decode cX1_hearLaws 97 = .ok (.invokevirtual 53, 3) := by decide +kernel
theorem dX1_hearLaws_100 : decode cX1_hearLaws 100 = .ok (.aload_n 0, 1) := by decide +kernel
theorem dX1_hearLaws_101 : decode cX1_hearLaws 101 = .ok (.getfield 42, 3) := by decide +kernel
theorem dX1_hearLaws_104 : decode cX1_hearLaws 104 = .ok (.iconst 0, 1) := by decide +kernel
theorem dX1_hearLaws_105 : decode cX1_hearLaws 105 = .ok (.iconst 3, 1) := by decide +kernel
theorem dX1_hearLaws_106 : decode cX1_hearLaws 106 = .ok (.iload_n 2, 1) := by decide +kernel
theorem dX1_hearLaws_107 : decode cX1_hearLaws 107 = .ok (.sipush 360, 3) := by decide +kernel
theorem dX1_hearLaws_110 : decode cX1_hearLaws 110 = .ok (.idiv, 1) := by decide +kernel
theorem dX1_hearLaws_111 : decode cX1_hearLaws 111 = .ok (.invokevirtual 53, 3) := by decide +kernel
theorem dX1_hearLaws_114 : decode cX1_hearLaws 114 = .ok (.aload_n 0, 1) := by decide +kernel
theorem dX1_hearLaws_115 : decode cX1_hearLaws 115 = .ok (.getfield 42, 3) := by decide +kernel
theorem dX1_hearLaws_118 : decode cX1_hearLaws 118 = .ok (.iconst 0, 1) := by decide +kernel
theorem dX1_hearLaws_119 : decode cX1_hearLaws 119 = .ok (.iconst 4, 1) := by decide +kernel
theorem dX1_hearLaws_120 : decode cX1_hearLaws 120 = .ok (.iload_n 3, 1) := by decide +kernel
theorem dX1_hearLaws_121 : decode cX1_hearLaws 121 = .ok (.iconst 1, 1) := by decide +kernel
theorem dX1_hearLaws_122 : decode cX1_hearLaws 122 = .ok (.if_icmp .ne 7, 3) := by decide +kernel
theorem dX1_hearLaws_125 : decode cX1_hearLaws 125 = .ok (.iconst 1, 1) := by decide +kernel
theorem dX1_hearLaws_126 : decode cX1_hearLaws 126 = .ok (.goto 4, 3) := by decide +kernel
theorem dX1_hearLaws_129 : decode cX1_hearLaws 129 = .ok (.iconst 0, 1) := by decide +kernel
theorem dX1_hearLaws_130 : decode cX1_hearLaws 130 = .ok (.invokevirtual 53, 3) := by decide +kernel
theorem dX1_hearLaws_133 : decode cX1_hearLaws 133 = .ok (.aload_n 0, 1) := by decide +kernel
theorem dX1_hearLaws_134 : decode cX1_hearLaws 134 = .ok (.getfield 42, 3) := by decide +kernel
theorem dX1_hearLaws_137 : decode cX1_hearLaws 137 = .ok (.iconst 0, 1) := by decide +kernel
theorem dX1_hearLaws_138 : decode cX1_hearLaws 138 = .ok (.iconst 5, 1) := by decide +kernel
theorem dX1_hearLaws_139 : decode cX1_hearLaws 139 = .ok (.iload_n 3, 1) := by decide +kernel
theorem dX1_hearLaws_140 : decode cX1_hearLaws 140 = .ok (.iconst 2, 1) := by decide +kernel
theorem dX1_hearLaws_141 : decode cX1_hearLaws 141 = .ok (.if_icmp .ne 7, 3) := by decide +kernel
theorem dX1_hearLaws_144 : decode cX1_hearLaws 144 = .ok (.iconst 1, 1) := by decide +kernel
theorem dX1_hearLaws_145 : decode cX1_hearLaws 145 = .ok (.goto 4, 3) := by decide +kernel
theorem dX1_hearLaws_148 : decode cX1_hearLaws 148 = .ok (.iconst 0, 1) := by decide +kernel
theorem dX1_hearLaws_149 : decode cX1_hearLaws 149 = .ok (.invokevirtual 53, 3) := by decide +kernel
theorem dX1_hearLaws_152 : decode cX1_hearLaws 152 = .ok (.aload_n 0, 1) := by decide +kernel
theorem dX1_hearLaws_153 : decode cX1_hearLaws 153 = .ok (.getfield 15, 3) := by decide +kernel
theorem dX1_hearLaws_156 : decode cX1_hearLaws 156 = .ok (.aload_n 0, 1) := by decide +kernel
theorem dX1_hearLaws_157 : decode cX1_hearLaws 157 = .ok (.getfield 36, 3) := by decide +kernel
theorem dX1_hearLaws_160 : decode cX1_hearLaws 160 = .ok (.iload_n 1, 1) := by decide +kernel
theorem dX1_hearLaws_161 : decode cX1_hearLaws 161 = .ok (.iconst 1, 1) := by decide +kernel
theorem dX1_hearLaws_162 : decode cX1_hearLaws 162 = .ok (.invokevirtual 57, 3) := by decide +kernel
theorem dX1_hearLaws_165 : decode cX1_hearLaws 165 = .ok (.iload_n 2, 1) := by decide +kernel
theorem dX1_hearLaws_166 : decode cX1_hearLaws 166 = .ok (.aload_n 0, 1) := by decide +kernel
theorem dX1_hearLaws_167 : decode cX1_hearLaws 167 = .ok (.getfield 42, 3) := by decide +kernel
theorem dX1_hearLaws_170 : decode cX1_hearLaws 170 = .ok (.invokevirtual 72, 3) := by decide +kernel
theorem dX1_hearLaws_173 : decode cX1_hearLaws 173 = .ok (.return_, 1) := by decide +kernel
def B_Courts_hearLaws_149   (x1 : Int32) (x2 : Int32) (z1 : Int32) (z2 : Int32) (z3 : Int32) (σ : CS) : Option (Int32 × CS) := bnd (f_FTable_put z1 z2 z3 σ) (fun _ σ149 => bnd (f_Table_get 10 x1 1 σ149) (fun r162 σ162 => bnd (f_Laws_hear r162 x2 σ162) (fun _ σ170 => some (0, σ170))))
set_option maxHeartbeats 4000000 in
set_option maxRecDepth 100000 in
theorem w_Courts_hearLaws_149 (C : Cx g p s m args meth c A 4 cX1_hearLaws yX1_hearLaws.cls) (hr : meth.sig.returnType = none)  {res : Int32 × CS}   (x1 : Int32) (x2 : Int32) (z1 : Int32) (z2 : Int32) (z3 : Int32)  (σ : CS) (ta : Nat → Nat) (hφ : φ0 ≤ ph σ.2.2) (hφ2 : ph σ.2.2 ≤ BB) (h : B_Courts_hearLaws_149 x1 x2 z1 z2 z3 σ = some res) : NV g p l e s m args below meth c A 3 92 4 ad Rr φ0 res ta σ [(0, .ref (ad 7)), (1, .int x1), (2, .int x2)] 149 [.int z3, .int z2, .int z1, .ref (ad 59)] := by
  unfold B_Courts_hearLaws_149 at h
  refine nc_callVV (q0 := 59) (As := [.int z1, .int z2, .int z3]) (rest := []) C h (fun _ _ e => c_FTable_put e hφ2) tw_823 kv_X9_put cl_Facts rfl ⟨Nat.le_of_ble_eq_true rfl, Nat.le_of_ble_eq_true rfl⟩ rfl dX1_hearLaws_149 rfl (Nat.le_of_ble_eq_true rfl) hφ hφ2 (fun r149 σ149 ta h hφ hφ2 => ?_)
  refine nw_aload_n C dX1_hearLaws_152 rfl 0 rfl ?_
  refine nw_get (v := .ref (ad 3)) C in_X1 7 cl_Courts rfl 4 (by decide) tw_383 rfl rfl dX1_hearLaws_153 ?_
  refine nw_aload_n C dX1_hearLaws_156 rfl 0 rfl ?_
  refine nw_get (v := .ref (ad 21)) C in_X1 7 cl_Courts rfl 1 (by decide) tw_378 rfl rfl dX1_hearLaws_157 ?_
  refine nw_iload_n C dX1_hearLaws_160 rfl 1 rfl ?_
  refine nw_iconst (v := 1) C dX1_hearLaws_161 (by decide) ?_
  refine nc_callVI (q0 := 21) (As := [.int x1, .int 1]) (rest := [.ref (ad 3)]) C h (fun _ _ e => c_Table_get 10 (by decide) e hφ2) tw_799 kv_X9_get (cl_T 10 (by decide)) rfl ⟨Nat.le_of_ble_eq_true rfl, Nat.le_of_ble_eq_true rfl⟩ rfl dX1_hearLaws_162 rfl (Nat.le_of_ble_eq_true rfl) hφ hφ2 (fun r162 σ162 ta h hφ hφ2 => ?_)
  refine nw_iload_n C dX1_hearLaws_165 rfl 2 rfl ?_
  refine nw_aload_n C dX1_hearLaws_166 rfl 0 rfl ?_
  refine nw_get (v := .ref (ad 59)) C in_X1 7 cl_Courts rfl 7 (by decide) tw_386 rfl rfl dX1_hearLaws_167 ?_
  refine nc_callVV (q0 := 3) (As := [.int r162, .int x2, .ref (ad 59)]) (rest := []) C h (fun _ _ e => c_Laws_hear e hφ2) tw_865 kv_X3_hear cl_Laws rfl ⟨Nat.le_of_ble_eq_true rfl, Nat.le_of_ble_eq_true rfl⟩ rfl dX1_hearLaws_170 rfl (Nat.le_of_ble_eq_true rfl) hφ hφ2 (fun r170 σ170 ta h hφ hφ2 => ?_)
  exact nc_vret C hr dX1_hearLaws_173 hφ hφ2 h
def B_Courts_hearLaws_130   (x1 : Int32) (x2 : Int32) (x3 : Int32) (z1 : Int32) (z2 : Int32) (z3 : Int32) (σ : CS) : Option (Int32 × CS) := bnd (f_FTable_put z1 z2 z3 σ) (fun _ σ130 => if x3 = 2 then B_Courts_hearLaws_149 x1 x2 0 5 1 σ130 else B_Courts_hearLaws_149 x1 x2 0 5 0 σ130)
set_option maxHeartbeats 4000000 in
set_option maxRecDepth 100000 in
theorem w_Courts_hearLaws_130 (C : Cx g p s m args meth c A 4 cX1_hearLaws yX1_hearLaws.cls) (hr : meth.sig.returnType = none)  {res : Int32 × CS}   (x1 : Int32) (x2 : Int32) (x3 : Int32) (z1 : Int32) (z2 : Int32) (z3 : Int32)  (σ : CS) (ta : Nat → Nat) (hφ : φ0 ≤ ph σ.2.2) (hφ2 : ph σ.2.2 ≤ BB) (h : B_Courts_hearLaws_130 x1 x2 x3 z1 z2 z3 σ = some res) : NV g p l e s m args below meth c A 3 92 4 ad Rr φ0 res ta σ [(0, .ref (ad 7)), (1, .int x1), (2, .int x2), (3, .int x3)] 130 [.int z3, .int z2, .int z1, .ref (ad 59)] := by
  unfold B_Courts_hearLaws_130 at h
  refine nc_callVV (q0 := 59) (As := [.int z1, .int z2, .int z3]) (rest := []) C h (fun _ _ e => c_FTable_put e hφ2) tw_823 kv_X9_put cl_Facts rfl ⟨Nat.le_of_ble_eq_true rfl, Nat.le_of_ble_eq_true rfl⟩ rfl dX1_hearLaws_130 rfl (Nat.le_of_ble_eq_true rfl) hφ hφ2 (fun r130 σ130 ta h hφ hφ2 => ?_)
  refine nw_aload_n C dX1_hearLaws_133 rfl 0 rfl ?_
  refine nw_get (v := .ref (ad 59)) C in_X1 7 cl_Courts rfl 7 (by decide) tw_386 rfl rfl dX1_hearLaws_134 ?_
  refine nw_iconst (v := 0) C dX1_hearLaws_137 (by decide) ?_
  refine nw_iconst (v := 5) C dX1_hearLaws_138 (by decide) ?_
  refine nw_iload_n C dX1_hearLaws_139 rfl 3 rfl ?_
  refine nw_iconst (v := 2) C dX1_hearLaws_140 (by decide) ?_
  refine nw_icmp_ne (tgt := 148) C dX1_hearLaws_141 (by decide) h (fun _ h => ?_) (fun _ h => ?_)
  · refine nw_iconst (v := 1) C dX1_hearLaws_144 (by decide) ?_
    refine nw_goto (tgt := 149) C dX1_hearLaws_145 (by decide) ?_
    exact nw_lv (lv' := [(0, .ref (ad 7)), (1, .int x1), (2, .int x2)]) [0, 1, 2] rfl (w_Courts_hearLaws_149 C hr x1 x2 0 5 1 _ _ hφ hφ2 h)
  · refine nw_iconst (v := 0) C dX1_hearLaws_148 (by decide) ?_
    exact nw_lv (lv' := [(0, .ref (ad 7)), (1, .int x1), (2, .int x2)]) [0, 1, 2] rfl (w_Courts_hearLaws_149 C hr x1 x2 0 5 0 _ _ hφ hφ2 h)
def f_Courts_hearLaws (p0 : Int32) (σ : CS) : Option (Int32 × CS) := bnd (f_Table_get 10 p0 4 σ) (fun r6 σ6 => bnd (f_Table_get 10 p0 2 σ6) (fun r21 σ21 => bnd (f_Table_get 10 p0 3 σ21) (fun r30 σ30 => bnd (f_Ground_placeOn r6 r21 r30 σ30) (fun r33 σ33 => bnd (f_Table_get 10 p0 5 σ33) (fun r49 σ49 => bnd (f_FTable_put 0 0 r49 σ49) (fun _ σ52 => bnd (f_FTable_put 0 1 ((r6 / 30) - (r6 / 30) / 12 * 12) σ52) (fun _ σ68 => bnd (f_Table_get 10 p0 0 σ68) (fun r90 σ90 => bnd (f_Table_get 6 r90 0 σ90) (fun r94 σ94 => bnd (f_FTable_put 0 2 r94 σ94) (fun _ σ97 => bnd (f_FTable_put 0 3 (r6 / 360) σ97) (fun _ σ111 => if r33 = 1 then B_Courts_hearLaws_130 p0 r6 r33 0 4 1 σ111 else B_Courts_hearLaws_130 p0 r6 r33 0 4 0 σ111)))))))))))
set_option maxHeartbeats 4000000 in
set_option maxRecDepth 100000 in
theorem c_Courts_hearLaws {l : Launch} {g : EG} {ad ta : Nat → Nat} {Rr : va_W} {σ σ' : CS} {r : Int32} {p0 : Int32}  (h : f_Courts_hearLaws p0 σ = some (r, σ')) (hφ2 : ph σ.2.2 ≤ BB) : CtV l g yX1_hearLaws (.code yX1_hearLaws cX1_hearLaws 4 none) 3 92 ad ta Rr σ [.ref (ad 7), .int p0] r σ' := by
  refine Ct.of rfl (by decide) (Nat.le_of_ble_eq_true rfl) ?_
  intro p e s m args below meth c A C hr
  have hφ : ph σ.2.2 ≤ ph σ.2.2 := Nat.le_refl _
  refine nw_zero (ph σ.2.2) ?_
  show NV g p l e s m args below meth c A 3 92 4 ad Rr (ph σ.2.2) (r, σ') ta σ [(0, .ref (ad 7)), (1, .int p0)] 0 []
  unfold f_Courts_hearLaws at h
  refine nw_aload_n C dX1_hearLaws_0 rfl 0 rfl ?_
  refine nw_get (v := .ref (ad 21)) C in_X1 7 cl_Courts rfl 1 (by decide) tw_378 rfl rfl dX1_hearLaws_1 ?_
  refine nw_iload_n C dX1_hearLaws_4 rfl 1 rfl ?_
  refine nw_iconst (v := 4) C dX1_hearLaws_5 (by decide) ?_
  refine nc_callVI (q0 := 21) (As := [.int p0, .int 4]) (rest := []) C h (fun _ _ e => c_Table_get 10 (by decide) e hφ2) tw_799 kv_X9_get (cl_T 10 (by decide)) rfl ⟨Nat.le_of_ble_eq_true rfl, Nat.le_of_ble_eq_true rfl⟩ rfl dX1_hearLaws_6 rfl (Nat.le_of_ble_eq_true rfl) hφ hφ2 (fun r6 σ6 ta h hφ hφ2 => ?_)
  refine nw_istore_n (lv' := [(2, .int r6), (0, .ref (ad 7)), (1, .int p0)]) C dX1_hearLaws_9 rfl (by decide) rfl ?_
  refine nw_aload_n C dX1_hearLaws_10 rfl 1 rfl ?_
  refine nw_get (v := .ref (ad 1)) C in_X1 7 cl_Courts rfl 3 (by decide) tw_382 rfl rfl dX1_hearLaws_11 ?_
  refine nw_iload_n C dX1_hearLaws_14 rfl 0 rfl ?_
  refine nw_aload_n C dX1_hearLaws_15 rfl 1 rfl ?_
  refine nw_get (v := .ref (ad 21)) C in_X1 7 cl_Courts rfl 1 (by decide) tw_378 rfl rfl dX1_hearLaws_16 ?_
  refine nw_iload_n C dX1_hearLaws_19 rfl 2 rfl ?_
  refine nw_iconst (v := 2) C dX1_hearLaws_20 (by decide) ?_
  refine nc_callVI (q0 := 21) (As := [.int p0, .int 2]) (rest := [.int r6, .ref (ad 1)]) C h (fun _ _ e => c_Table_get 10 (by decide) e hφ2) tw_799 kv_X9_get (cl_T 10 (by decide)) rfl ⟨Nat.le_of_ble_eq_true rfl, Nat.le_of_ble_eq_true rfl⟩ rfl dX1_hearLaws_21 rfl (Nat.le_of_ble_eq_true rfl) hφ hφ2 (fun r21 σ21 ta h hφ hφ2 => ?_)
  refine nw_aload_n C dX1_hearLaws_24 rfl 1 rfl ?_
  refine nw_get (v := .ref (ad 21)) C in_X1 7 cl_Courts rfl 1 (by decide) tw_378 rfl rfl dX1_hearLaws_25 ?_
  refine nw_iload_n C dX1_hearLaws_28 rfl 2 rfl ?_
  refine nw_iconst (v := 3) C dX1_hearLaws_29 (by decide) ?_
  refine nc_callVI (q0 := 21) (As := [.int p0, .int 3]) (rest := [.int r21, .int r6, .ref (ad 1)]) C h (fun _ _ e => c_Table_get 10 (by decide) e hφ2) tw_799 kv_X9_get (cl_T 10 (by decide)) rfl ⟨Nat.le_of_ble_eq_true rfl, Nat.le_of_ble_eq_true rfl⟩ rfl dX1_hearLaws_30 rfl (Nat.le_of_ble_eq_true rfl) hφ hφ2 (fun r30 σ30 ta h hφ hφ2 => ?_)
  refine nc_callVI (q0 := 1) (As := [.int r6, .int r21, .int r30]) (rest := []) C h (fun _ _ e => c_Ground_placeOn e hφ2) tw_832 kv_X2_placeOn cl_Ground rfl ⟨Nat.le_of_ble_eq_true rfl, Nat.le_of_ble_eq_true rfl⟩ rfl dX1_hearLaws_33 rfl (Nat.le_of_ble_eq_true rfl) hφ hφ2 (fun r33 σ33 ta h hφ hφ2 => ?_)
  refine nw_istore_n (lv' := [(3, .int r33), (2, .int r6), (0, .ref (ad 7)), (1, .int p0)]) C dX1_hearLaws_36 rfl (by decide) rfl ?_
  refine nw_aload_n C dX1_hearLaws_37 rfl 2 rfl ?_
  refine nw_get (v := .ref (ad 59)) C in_X1 7 cl_Courts rfl 7 (by decide) tw_386 rfl rfl dX1_hearLaws_38 ?_
  refine nw_iconst (v := 0) C dX1_hearLaws_41 (by decide) ?_
  refine nw_iconst (v := 0) C dX1_hearLaws_42 (by decide) ?_
  refine nw_aload_n C dX1_hearLaws_43 rfl 2 rfl ?_
  refine nw_get (v := .ref (ad 21)) C in_X1 7 cl_Courts rfl 1 (by decide) tw_378 rfl rfl dX1_hearLaws_44 ?_
  refine nw_iload_n C dX1_hearLaws_47 rfl 3 rfl ?_
  refine nw_iconst (v := 5) C dX1_hearLaws_48 (by decide) ?_
  refine nc_callVI (q0 := 21) (As := [.int p0, .int 5]) (rest := [.int 0, .int 0, .ref (ad 59)]) C h (fun _ _ e => c_Table_get 10 (by decide) e hφ2) tw_799 kv_X9_get (cl_T 10 (by decide)) rfl ⟨Nat.le_of_ble_eq_true rfl, Nat.le_of_ble_eq_true rfl⟩ rfl dX1_hearLaws_49 rfl (Nat.le_of_ble_eq_true rfl) hφ hφ2 (fun r49 σ49 ta h hφ hφ2 => ?_)
  refine nc_callVV (q0 := 59) (As := [.int 0, .int 0, .int r49]) (rest := []) C h (fun _ _ e => c_FTable_put e hφ2) tw_823 kv_X9_put cl_Facts rfl ⟨Nat.le_of_ble_eq_true rfl, Nat.le_of_ble_eq_true rfl⟩ rfl dX1_hearLaws_52 rfl (Nat.le_of_ble_eq_true rfl) hφ hφ2 (fun r52 σ52 ta h hφ hφ2 => ?_)
  refine nw_aload_n C dX1_hearLaws_55 rfl 2 rfl ?_
  refine nw_get (v := .ref (ad 59)) C in_X1 7 cl_Courts rfl 7 (by decide) tw_386 rfl rfl dX1_hearLaws_56 ?_
  refine nw_iconst (v := 0) C dX1_hearLaws_59 (by decide) ?_
  refine nw_iconst (v := 1) C dX1_hearLaws_60 (by decide) ?_
  refine nw_iload_n C dX1_hearLaws_61 rfl 1 rfl ?_
  refine nw_bipush (v := 30) C dX1_hearLaws_62 (by decide) ?_
  refine nw_idivk C dX1_hearLaws_64 (by decide) ?_
  refine nw_bipush (v := 12) C dX1_hearLaws_65 (by decide) ?_
  refine nw_iremk C dX1_hearLaws_67 (by decide) ?_
  refine nc_callVV (q0 := 59) (As := [.int 0, .int 1, .int ((r6 / 30) - (r6 / 30) / 12 * 12)]) (rest := []) C h (fun _ _ e => c_FTable_put e hφ2) tw_823 kv_X9_put cl_Facts rfl ⟨Nat.le_of_ble_eq_true rfl, Nat.le_of_ble_eq_true rfl⟩ rfl dX1_hearLaws_68 rfl (Nat.le_of_ble_eq_true rfl) hφ hφ2 (fun r68 σ68 ta h hφ hφ2 => ?_)
  refine nw_aload_n C dX1_hearLaws_71 rfl 2 rfl ?_
  refine nw_get (v := .ref (ad 59)) C in_X1 7 cl_Courts rfl 7 (by decide) tw_386 rfl rfl dX1_hearLaws_72 ?_
  refine nw_iconst (v := 0) C dX1_hearLaws_75 (by decide) ?_
  refine nw_iconst (v := 2) C dX1_hearLaws_76 (by decide) ?_
  refine nw_aload_n C dX1_hearLaws_77 rfl 2 rfl ?_
  refine nw_get (v := .ref (ad 5)) C in_X1 7 cl_Courts rfl 5 (by decide) tw_384 rfl rfl dX1_hearLaws_78 ?_
  refine nw_get (v := .ref (ad 17)) C in_X5 5 cl_People rfl 0 (by decide) tw_313 rfl rfl dX1_hearLaws_81 ?_
  refine nw_aload_n C dX1_hearLaws_84 rfl 2 rfl ?_
  refine nw_get (v := .ref (ad 21)) C in_X1 7 cl_Courts rfl 1 (by decide) tw_378 rfl rfl dX1_hearLaws_85 ?_
  refine nw_iload_n C dX1_hearLaws_88 rfl 3 rfl ?_
  refine nw_iconst (v := 0) C dX1_hearLaws_89 (by decide) ?_
  refine nc_callVI (q0 := 21) (As := [.int p0, .int 0]) (rest := [.ref (ad 17), .int 2, .int 0, .ref (ad 59)]) C h (fun _ _ e => c_Table_get 10 (by decide) e hφ2) tw_799 kv_X9_get (cl_T 10 (by decide)) rfl ⟨Nat.le_of_ble_eq_true rfl, Nat.le_of_ble_eq_true rfl⟩ rfl dX1_hearLaws_90 rfl (Nat.le_of_ble_eq_true rfl) hφ hφ2 (fun r90 σ90 ta h hφ hφ2 => ?_)
  refine nw_iconst (v := 0) C dX1_hearLaws_93 (by decide) ?_
  refine nc_callVI (q0 := 17) (As := [.int r90, .int 0]) (rest := [.int 2, .int 0, .ref (ad 59)]) C h (fun _ _ e => c_Table_get 6 (by decide) e hφ2) tw_799 kv_X9_get (cl_T 6 (by decide)) rfl ⟨Nat.le_of_ble_eq_true rfl, Nat.le_of_ble_eq_true rfl⟩ rfl dX1_hearLaws_94 rfl (Nat.le_of_ble_eq_true rfl) hφ hφ2 (fun r94 σ94 ta h hφ hφ2 => ?_)
  refine nc_callVV (q0 := 59) (As := [.int 0, .int 2, .int r94]) (rest := []) C h (fun _ _ e => c_FTable_put e hφ2) tw_823 kv_X9_put cl_Facts rfl ⟨Nat.le_of_ble_eq_true rfl, Nat.le_of_ble_eq_true rfl⟩ rfl dX1_hearLaws_97 rfl (Nat.le_of_ble_eq_true rfl) hφ hφ2 (fun r97 σ97 ta h hφ hφ2 => ?_)
  refine nw_aload_n C dX1_hearLaws_100 rfl 2 rfl ?_
  refine nw_get (v := .ref (ad 59)) C in_X1 7 cl_Courts rfl 7 (by decide) tw_386 rfl rfl dX1_hearLaws_101 ?_
  refine nw_iconst (v := 0) C dX1_hearLaws_104 (by decide) ?_
  refine nw_iconst (v := 3) C dX1_hearLaws_105 (by decide) ?_
  refine nw_iload_n C dX1_hearLaws_106 rfl 1 rfl ?_
  refine nw_sipush (v := 360) C dX1_hearLaws_107 (by decide) ?_
  refine nw_idivk C dX1_hearLaws_110 (by decide) ?_
  refine nc_callVV (q0 := 59) (As := [.int 0, .int 3, .int (r6 / 360)]) (rest := []) C h (fun _ _ e => c_FTable_put e hφ2) tw_823 kv_X9_put cl_Facts rfl ⟨Nat.le_of_ble_eq_true rfl, Nat.le_of_ble_eq_true rfl⟩ rfl dX1_hearLaws_111 rfl (Nat.le_of_ble_eq_true rfl) hφ hφ2 (fun r111 σ111 ta h hφ hφ2 => ?_)
  refine nw_aload_n C dX1_hearLaws_114 rfl 2 rfl ?_
  refine nw_get (v := .ref (ad 59)) C in_X1 7 cl_Courts rfl 7 (by decide) tw_386 rfl rfl dX1_hearLaws_115 ?_
  refine nw_iconst (v := 0) C dX1_hearLaws_118 (by decide) ?_
  refine nw_iconst (v := 4) C dX1_hearLaws_119 (by decide) ?_
  refine nw_iload_n C dX1_hearLaws_120 rfl 0 rfl ?_
  refine nw_iconst (v := 1) C dX1_hearLaws_121 (by decide) ?_
  refine nw_icmp_ne (tgt := 129) C dX1_hearLaws_122 (by decide) h (fun _ h => ?_) (fun _ h => ?_)
  · refine nw_iconst (v := 1) C dX1_hearLaws_125 (by decide) ?_
    refine nw_goto (tgt := 130) C dX1_hearLaws_126 (by decide) ?_
    exact nw_lv (lv' := [(0, .ref (ad 7)), (1, .int p0), (2, .int r6), (3, .int r33)]) [2, 3, 1, 0] rfl (w_Courts_hearLaws_130 C hr p0 r6 r33 0 4 1 _ _ hφ hφ2 h)
  · refine nw_iconst (v := 0) C dX1_hearLaws_129 (by decide) ?_
    exact nw_lv (lv' := [(0, .ref (ad 7)), (1, .int p0), (2, .int r6), (3, .int r33)]) [2, 3, 1, 0] rfl (w_Courts_hearLaws_130 C hr p0 r6 r33 0 4 0 _ _ hφ hφ2 h)
theorem dX3_fineOr_0 : decode cX3_fineOr 0 = .ok (.aload_n 0, 1) := by decide +kernel
theorem dX3_fineOr_1 : decode cX3_fineOr 1 = .ok (.getfield 46, 3) := by decide +kernel
theorem dX3_fineOr_4 : decode cX3_fineOr 4 = .ok (.iconst (-1), 1) := by decide +kernel
theorem dX3_fineOr_5 : decode cX3_fineOr 5 = .ok (.if_icmp .ne 7, 3) := by decide +kernel
theorem dX3_fineOr_8 : decode cX3_fineOr 8 = .ok (.iload_n 1, 1) := by decide +kernel
theorem dX3_fineOr_9 : decode cX3_fineOr 9 = .ok (.goto 7, 3) := by decide +kernel
theorem dX3_fineOr_12 : decode cX3_fineOr 12 = .ok (.aload_n 0, 1) := by decide +kernel
theorem dX3_fineOr_13 : decode cX3_fineOr 13 = .ok (.getfield 46, 3) := by decide +kernel
theorem dX3_fineOr_16 : decode cX3_fineOr 16 = .ok (.ireturn, 1) := by decide +kernel
def f_Laws_fineOr (p0 : Int32) (σ : CS) : Option (Int32 × CS) := if (σ.1 54) = (-1) then some (p0, σ) else some ((σ.1 54), σ)
set_option maxHeartbeats 4000000 in
set_option maxRecDepth 100000 in
theorem c_Laws_fineOr {l : Launch} {g : EG} {ad ta : Nat → Nat} {Rr : va_W} {σ σ' : CS} {r : Int32} {p0 : Int32}  (h : f_Laws_fineOr p0 σ = some (r, σ')) (hφ2 : ph σ.2.2 ≤ BB) : CtI l g yX3_fineOr (.code yX3_fineOr cX3_fineOr 2 (some .int)) 0 0 ad ta Rr σ [.ref (ad 3), .int p0] r σ' := by
  refine Ct.of rfl (by decide) (Nat.le_of_ble_eq_true rfl) ?_
  intro p e s m args below meth c A C hr
  have hφ : ph σ.2.2 ≤ ph σ.2.2 := Nat.le_refl _
  refine nw_zero (ph σ.2.2) ?_
  show NI g p l e s m args below meth c A 0 0 2 ad Rr (ph σ.2.2) (r, σ') ta σ [(0, .ref (ad 3)), (1, .int p0)] 0 []
  unfold f_Laws_fineOr at h
  refine nw_aload_n C dX3_fineOr_0 rfl 0 rfl ?_
  refine nw_get (v := .int (σ.1 54)) C in_X3 3 cl_Laws rfl 7 (by decide) tw_286 rfl rfl dX3_fineOr_1 ?_
  refine nw_iconst (v := (-1)) C dX3_fineOr_4 (by decide) ?_
  refine nw_icmp_ne (tgt := 12) C dX3_fineOr_5 (by decide) h (fun _ h => ?_) (fun _ h => ?_)
  · refine nw_iload_n C dX3_fineOr_8 rfl 1 rfl ?_
    refine nw_goto (tgt := 16) C dX3_fineOr_9 (by decide) ?_
    exact nc_iret C hr dX3_fineOr_16 hφ hφ2 h
  · refine nw_aload_n C dX3_fineOr_12 rfl 0 rfl ?_
    refine nw_get (v := .int (σ.1 54)) C in_X3 3 cl_Laws rfl 7 (by decide) tw_286 rfl rfl dX3_fineOr_13 ?_
    exact nc_iret C hr dX3_fineOr_16 hφ hφ2 h
theorem dX1_fineOf_0 : decode cX1_fineOf 0 = .ok (.aload_n 0, 1) := by decide +kernel
theorem dX1_fineOf_1 : decode cX1_fineOf 1 = .ok (.iload_n 1, 1) := by decide +kernel
theorem dX1_fineOf_2 : decode cX1_fineOf 2 = .ok (.invokevirtual 78, 3) := by decide +kernel
theorem dX1_fineOf_5 : decode cX1_fineOf 5 = .ok (.aload_n 0, 1) := by decide +kernel
theorem dX1_fineOf_6 : decode cX1_fineOf 6 = .ok (.getfield 15, 3) := by decide +kernel
theorem dX1_fineOf_9 : decode cX1_fineOf 9 = .ok (.aload_n 0, 1) := by decide +kernel
theorem dX1_fineOf_10 : decode cX1_fineOf 10 = .ok (.getfield 36, 3) := by decide +kernel
theorem dX1_fineOf_13 : decode cX1_fineOf 13 = .ok (.iload_n 1, 1) := by decide +kernel
theorem dX1_fineOf_14 : decode cX1_fineOf 14 = .ok (.iconst 5, 1) := by decide +kernel
theorem dX1_fineOf_15 : decode cX1_fineOf 15 = .ok (.invokevirtual 57, 3) := by decide +kernel
theorem dX1_fineOf_18 : decode cX1_fineOf 18 = .ok (.invokevirtual 82, 3) := by decide +kernel
theorem dX1_fineOf_21 : decode cX1_fineOf 21 = .ok (.ireturn, 1) := by decide +kernel
def f_Courts_fineOf (p0 : Int32) (σ : CS) : Option (Int32 × CS) := bnd (f_Courts_hearLaws p0 σ) (fun _ σ2 => bnd (f_Table_get 10 p0 5 σ2) (fun r15 σ15 => bnd (f_Laws_fineOr r15 σ15) (fun r18 σ18 => some (r18, σ18))))
set_option maxHeartbeats 4000000 in
set_option maxRecDepth 100000 in
theorem c_Courts_fineOf {l : Launch} {g : EG} {ad ta : Nat → Nat} {Rr : va_W} {σ σ' : CS} {r : Int32} {p0 : Int32}  (h : f_Courts_fineOf p0 σ = some (r, σ')) (hφ2 : ph σ.2.2 ≤ BB) : CtI l g yX1_fineOf (.code yX1_fineOf cX1_fineOf 2 (some .int)) 4 115 ad ta Rr σ [.ref (ad 7), .int p0] r σ' := by
  refine Ct.of rfl (by decide) (Nat.le_of_ble_eq_true rfl) ?_
  intro p e s m args below meth c A C hr
  have hφ : ph σ.2.2 ≤ ph σ.2.2 := Nat.le_refl _
  refine nw_zero (ph σ.2.2) ?_
  show NI g p l e s m args below meth c A 4 115 2 ad Rr (ph σ.2.2) (r, σ') ta σ [(0, .ref (ad 7)), (1, .int p0)] 0 []
  unfold f_Courts_fineOf at h
  refine nw_aload_n C dX1_fineOf_0 rfl 0 rfl ?_
  refine nw_iload_n C dX1_fineOf_1 rfl 1 rfl ?_
  refine nc_callVV (q0 := 7) (As := [.int p0]) (rest := []) C h (fun _ _ e => c_Courts_hearLaws e hφ2) tw_861 kv_X1_hearLaws cl_Courts rfl ⟨Nat.le_of_ble_eq_true rfl, Nat.le_of_ble_eq_true rfl⟩ rfl dX1_fineOf_2 rfl (Nat.le_of_ble_eq_true rfl) hφ hφ2 (fun r2 σ2 ta h hφ hφ2 => ?_)
  refine nw_aload_n C dX1_fineOf_5 rfl 0 rfl ?_
  refine nw_get (v := .ref (ad 3)) C in_X1 7 cl_Courts rfl 4 (by decide) tw_383 rfl rfl dX1_fineOf_6 ?_
  refine nw_aload_n C dX1_fineOf_9 rfl 0 rfl ?_
  refine nw_get (v := .ref (ad 21)) C in_X1 7 cl_Courts rfl 1 (by decide) tw_378 rfl rfl dX1_fineOf_10 ?_
  refine nw_iload_n C dX1_fineOf_13 rfl 1 rfl ?_
  refine nw_iconst (v := 5) C dX1_fineOf_14 (by decide) ?_
  refine nc_callVI (q0 := 21) (As := [.int p0, .int 5]) (rest := [.ref (ad 3)]) C h (fun _ _ e => c_Table_get 10 (by decide) e hφ2) tw_799 kv_X9_get (cl_T 10 (by decide)) rfl ⟨Nat.le_of_ble_eq_true rfl, Nat.le_of_ble_eq_true rfl⟩ rfl dX1_fineOf_15 rfl (Nat.le_of_ble_eq_true rfl) hφ hφ2 (fun r15 σ15 ta h hφ hφ2 => ?_)
  refine nc_callVI (q0 := 3) (As := [.int r15]) (rest := []) C h (fun _ _ e => c_Laws_fineOr e hφ2) tw_882 kv_X3_fineOr cl_Laws rfl ⟨Nat.le_of_ble_eq_true rfl, Nat.le_of_ble_eq_true rfl⟩ rfl dX1_fineOf_18 rfl (Nat.le_of_ble_eq_true rfl) hφ hφ2 (fun r18 σ18 ta h hφ hφ2 => ?_)
  exact nc_iret C hr dX1_fineOf_21 hφ hφ2 h
theorem dX3_wordIsBar_0 : decode cX3_wordIsBar 0 = .ok (.aload_n 0, 1) := by decide +kernel
theorem dX3_wordIsBar_1 : decode cX3_wordIsBar 1 = .ok (.getfield 43, 3) := by decide +kernel
theorem dX3_wordIsBar_4 : decode cX3_wordIsBar 4 = .ok (.iconst (-1), 1) := by decide +kernel
theorem dX3_wordIsBar_5 : decode cX3_wordIsBar 5 = .ok (.if_icmp .eq 22, 3) := by decide +kernel
theorem dX3_wordIsBar_8 : decode cX3_wordIsBar 8 = .ok (.aload_n 0, 1) := by decide +kernel
theorem dX3_wordIsBar_9 : decode cX3_wordIsBar 9 = .ok (.getfield 22, 3) := by decide +kernel
theorem dX3_wordIsBar_12 : decode cX3_wordIsBar 12 = .ok (.aload_n 0, 1) := by decide +kernel
theorem dX3_wordIsBar_13 : decode cX3_wordIsBar 13 = .ok (.getfield 43, 3) := by decide +kernel
theorem dX3_wordIsBar_16 : decode cX3_wordIsBar 16 = .ok (.iconst 2, 1) := by decide +kernel
theorem dX3_wordIsBar_17 : decode cX3_wordIsBar 17 = .ok (.invokevirtual 86, 3) := by decide +kernel
theorem dX3_wordIsBar_20 : decode cX3_wordIsBar 20 = .ok (.ifCond .ne 7, 3) := by decide +kernel
theorem dX3_wordIsBar_23 : decode cX3_wordIsBar 23 = .ok (.iconst 1, 1) := by decide +kernel
theorem dX3_wordIsBar_24 : decode cX3_wordIsBar 24 = .ok (.goto 4, 3) := by decide +kernel
theorem dX3_wordIsBar_27 : decode cX3_wordIsBar 27 = .ok (.iconst 0, 1) := by decide +kernel
theorem dX3_wordIsBar_28 : decode cX3_wordIsBar 28 = .ok (.ireturn, 1) := by decide +kernel
def f_Laws_wordIsBar  (σ : CS) : Option (Int32 × CS) := if (σ.1 53) = (-1) then some (0, σ) else bnd (f_Table_get 4 (σ.1 53) 2 σ) (fun r17 σ17 => if r17 = 0 then some (1, σ17) else some (0, σ17))
set_option maxHeartbeats 4000000 in
set_option maxRecDepth 100000 in
theorem c_Laws_wordIsBar {l : Launch} {g : EG} {ad ta : Nat → Nat} {Rr : va_W} {σ σ' : CS} {r : Int32}   (h : f_Laws_wordIsBar σ = some (r, σ')) (hφ2 : ph σ.2.2 ≤ BB) : CtI l g yX3_wordIsBar (.code yX3_wordIsBar cX3_wordIsBar 1 (some .boolean)) 1 23 ad ta Rr σ [.ref (ad 3)] r σ' := by
  refine Ct.of rfl (by decide) (Nat.le_of_ble_eq_true rfl) ?_
  intro p e s m args below meth c A C hr
  have hφ : ph σ.2.2 ≤ ph σ.2.2 := Nat.le_refl _
  refine nw_zero (ph σ.2.2) ?_
  show NI g p l e s m args below meth c A 1 23 1 ad Rr (ph σ.2.2) (r, σ') ta σ [(0, .ref (ad 3))] 0 []
  unfold f_Laws_wordIsBar at h
  refine nw_aload_n C dX3_wordIsBar_0 rfl 0 rfl ?_
  refine nw_get (v := .int (σ.1 53)) C in_X3 3 cl_Laws rfl 6 (by decide) tw_285 rfl rfl dX3_wordIsBar_1 ?_
  refine nw_iconst (v := (-1)) C dX3_wordIsBar_4 (by decide) ?_
  refine nw_icmp_eq (tgt := 27) C dX3_wordIsBar_5 (by decide) h (fun _ h => ?_) (fun _ h => ?_)
  · refine nw_iconst (v := 0) C dX3_wordIsBar_27 (by decide) ?_
    exact nc_zret C hr (Or.inl rfl) dX3_wordIsBar_28 hφ hφ2 h
  · refine nw_aload_n C dX3_wordIsBar_8 rfl 0 rfl ?_
    refine nw_get (v := .ref (ad 15)) C in_X3 3 cl_Laws rfl 1 (by decide) tw_279 rfl rfl dX3_wordIsBar_9 ?_
    refine nw_aload_n C dX3_wordIsBar_12 rfl 0 rfl ?_
    refine nw_get (v := .int (σ.1 53)) C in_X3 3 cl_Laws rfl 6 (by decide) tw_285 rfl rfl dX3_wordIsBar_13 ?_
    refine nw_iconst (v := 2) C dX3_wordIsBar_16 (by decide) ?_
    refine nc_callVI (q0 := 15) (As := [.int (σ.1 53), .int 2]) (rest := []) C h (fun _ _ e => c_Table_get 4 (by decide) e hφ2) tw_789 kv_X9_get (cl_T 4 (by decide)) rfl ⟨Nat.le_of_ble_eq_true rfl, Nat.le_of_ble_eq_true rfl⟩ rfl dX3_wordIsBar_17 rfl (Nat.le_of_ble_eq_true rfl) hφ hφ2 (fun r17 σ17 ta h hφ hφ2 => ?_)
    refine nw_if_ne (tgt := 27) C dX3_wordIsBar_20 (by decide) h (fun _ h => ?_) (fun _ h => ?_)
    · refine nw_iconst (v := 1) C dX3_wordIsBar_23 (by decide) ?_
      refine nw_goto (tgt := 28) C dX3_wordIsBar_24 (by decide) ?_
      exact nc_zret C hr (Or.inr rfl) dX3_wordIsBar_28 hφ hφ2 h
    · refine nw_iconst (v := 0) C dX3_wordIsBar_27 (by decide) ?_
      exact nc_zret C hr (Or.inl rfl) dX3_wordIsBar_28 hφ hφ2 h
theorem dX1_isBarred_0 : decode cX1_isBarred 0 = .ok (.aload_n 0, 1) := by decide +kernel
theorem dX1_isBarred_1 : decode cX1_isBarred 1 = .ok (.iload_n 1, 1) := by decide +kernel
theorem dX1_isBarred_2 : decode cX1_isBarred 2 = .ok (.invokevirtual 78, 3) := by decide +kernel
theorem dX1_isBarred_5 : decode cX1_isBarred 5 = .ok (.aload_n 0, 1) := by decide +kernel
theorem dX1_isBarred_6 : decode cX1_isBarred 6 = .ok (.getfield 42, 3) := by decide +kernel
theorem dX1_isBarred_9 : decode cX1_isBarred 9 = .ok (.iconst 0, 1) := by decide +kernel
theorem dX1_isBarred_10 : decode cX1_isBarred 10 = .ok (.iconst 4, 1) := by decide +kernel
theorem dX1_isBarred_11 : decode cX1_isBarred 11 = .ok (.invokevirtual 57, 3) := by decide +kernel
theorem dX1_isBarred_14 : decode cX1_isBarred 14 = .ok (.aload_n 0, 1) := by decide +kernel
theorem dX1_isBarred_15 : decode cX1_isBarred 15 = .ok (.getfield 42, 3) := by decide +kernel
theorem dX1_isBarred_18 : decode cX1_isBarred 18 = .ok (.iconst 0, 1) := by decide +kernel
theorem dX1_isBarred_19 : decode cX1_isBarred 19 = .ok (.iconst 5, 1) := by decide +kernel
theorem dX1_isBarred_20 : decode cX1_isBarred 20 = .ok (.invokevirtual 57, 3) := by decide +kernel
theorem dX1_isBarred_23 : decode cX1_isBarred 23 = .ok (.iadd, 1) := by decide +kernel
theorem dX1_isBarred_24 : decode cX1_isBarred 24 = .ok (.ifCond .ne 7, 3) := by decide +kernel
theorem dX1_isBarred_27 : decode cX1_isBarred 27 = .ok (.iconst 1, 1) := by decide +kernel
theorem dX1_isBarred_28 : decode cX1_isBarred 28 = .ok (.goto 4, 3) := by decide +kernel
theorem dX1_isBarred_31 : decode cX1_isBarred 31 = .ok (.iconst 0, 1) := by decide +kernel
theorem dX1_isBarred_32 : decode cX1_isBarred 32 = .ok (.istore_n 2, 1) := by decide +kernel
theorem dX1_isBarred_33 : decode cX1_isBarred 33 = .ok (.aload_n 0, 1) := by decide +kernel
theorem dX1_isBarred_34 : decode cX1_isBarred 34 = .ok (.getfield 15, 3) := by decide +kernel
theorem dX1_isBarred_37 : decode cX1_isBarred 37 = .ok (.invokevirtual 86, 3) := by decide +kernel
theorem dX1_isBarred_40 : decode cX1_isBarred 40 = .ok (.ifCond .eq 7, 3) := by decide +kernel
theorem dX1_isBarred_43 : decode cX1_isBarred 43 = .ok (.iload_n 2, 1) := by decide +kernel
theorem dX1_isBarred_44 : decode cX1_isBarred 44 = .ok (.ifCond .eq 5, 3) := by decide +kernel
theorem dX1_isBarred_47 : decode cX1_isBarred 47 = .ok (.iconst 0, 1) := by decide +kernel
theorem dX1_isBarred_48 : decode cX1_isBarred 48 = .ok (.ireturn, 1) := by decide +kernel
theorem dX1_isBarred_49 : decode cX1_isBarred 49 = .ok (.aload_n 0, 1) := by decide +kernel
theorem dX1_isBarred_50 : decode cX1_isBarred 50 = .ok (.getfield 23, 3) := by decide +kernel
theorem dX1_isBarred_53 : decode cX1_isBarred 53 = .ok (.aload_n 0, 1) := by decide +kernel
theorem dX1_isBarred_54 : decode cX1_isBarred 54 = .ok (.getfield 36, 3) := by decide +kernel
theorem dX1_isBarred_57 : decode cX1_isBarred 57 = .ok (.iload_n 1, 1) := by decide +kernel
theorem dX1_isBarred_58 : decode cX1_isBarred 58 = .ok (.iconst 0, 1) := by decide +kernel
theorem dX1_isBarred_59 : decode cX1_isBarred 59 = .ok (.invokevirtual 57, 3) := by decide +kernel
theorem dX1_isBarred_62 : decode cX1_isBarred 62 = .ok (.aload_n 0, 1) := by decide +kernel
theorem dX1_isBarred_63 : decode cX1_isBarred 63 = .ok (.getfield 36, 3) := by decide +kernel
theorem dX1_isBarred_66 : decode cX1_isBarred 66 = .ok (.iload_n 1, 1) := by decide +kernel
theorem dX1_isBarred_67 : decode cX1_isBarred 67 = .ok (.iconst 1, 1) := by decide +kernel
theorem dX1_isBarred_68 : decode cX1_isBarred 68 = .ok (.invokevirtual 57, 3) := by decide +kernel
theorem dX1_isBarred_71 : decode cX1_isBarred 71 = .ok (.aload_n 0, 1) := by decide +kernel
theorem dX1_isBarred_72 : decode cX1_isBarred 72 = .ok (.getfield 36, 3) := by decide +kernel
theorem dX1_isBarred_75 : decode cX1_isBarred 75 = .ok (.iload_n 1, 1) := by decide +kernel
theorem dX1_isBarred_76 : decode cX1_isBarred 76 = .ok (.iconst 2, 1) := by decide +kernel
theorem dX1_isBarred_77 : decode cX1_isBarred 77 = .ok (.invokevirtual 57, 3) := by decide +kernel
theorem dX1_isBarred_80 : decode cX1_isBarred 80 = .ok (.aload_n 0, 1) := by decide +kernel
theorem dX1_isBarred_81 : decode cX1_isBarred 81 = .ok (.getfield 36, 3) := by decide +kernel
theorem dX1_isBarred_84 : decode cX1_isBarred 84 = .ok (.iload_n 1, 1) := by decide +kernel
theorem dX1_isBarred_85 : decode cX1_isBarred 85 = .ok (.iconst 3, 1) := by decide +kernel
theorem dX1_isBarred_86 : decode cX1_isBarred 86 = .ok (.invokevirtual 57, 3) := by decide +kernel
theorem dX1_isBarred_89 : decode cX1_isBarred 89 = .ok (.aload_n 0, 1) := by decide +kernel
theorem dX1_isBarred_90 : decode cX1_isBarred 90 = .ok (.getfield 36, 3) := by decide +kernel
theorem dX1_isBarred_93 : decode cX1_isBarred 93 = .ok (.iload_n 1, 1) := by decide +kernel
theorem dX1_isBarred_94 : decode cX1_isBarred 94 = .ok (.iconst 4, 1) := by decide +kernel
theorem dX1_isBarred_95 : decode cX1_isBarred 95 = .ok (.invokevirtual 57, 3) := by decide +kernel
theorem dX1_isBarred_98 : decode cX1_isBarred 98 = .ok (.invokevirtual 90, 3) := by decide +kernel
theorem dX1_isBarred_101 : decode cX1_isBarred 101 = .ok (.ifCond .ne 7, 3) := by decide +kernel
theorem dX1_isBarred_104 : decode cX1_isBarred 104 = .ok (.iconst 1, 1) := by decide +kernel
theorem dX1_isBarred_105 : decode cX1_isBarred 105 = .ok (.goto 4, 3) := by decide +kernel
theorem dX1_isBarred_108 : decode cX1_isBarred 108 = .ok (.iconst 0, 1) := by decide +kernel
theorem dX1_isBarred_109 : decode cX1_isBarred 109 = .ok (.ireturn, 1) := by decide +kernel
def B_Courts_isBarred_32   (x1 : Int32) (z0 : Int32) (σ : CS) : Option (Int32 × CS) := bnd (f_Laws_wordIsBar σ) (fun r37 σ37 => if r37 = 0 then some (0, σ37) else if z0 = 0 then bnd (f_Table_get 10 x1 0 σ37) (fun r59 σ59 => bnd (f_Table_get 10 x1 1 σ59) (fun r68 σ68 => bnd (f_Table_get 10 x1 2 σ68) (fun r77 σ77 => bnd (f_Table_get 10 x1 3 σ77) (fun r86 σ86 => bnd (f_Table_get 10 x1 4 σ86) (fun r95 σ95 => bnd (f_Claims_allows r59 r68 r77 r86 r95 σ95) (fun r98 σ98 => if r98 = 0 then some (1, σ98) else some (0, σ98))))))) else some (0, σ37))
set_option maxHeartbeats 4000000 in
set_option maxRecDepth 100000 in
theorem w_Courts_isBarred_32 (C : Cx g p s m args meth c A 3 cX1_isBarred yX1_isBarred.cls) (hr : meth.sig.returnType = (some .boolean))  {res : Int32 × CS}   (x1 : Int32) (z0 : Int32)  (σ : CS) (ta : Nat → Nat) (hφ : φ0 ≤ ph σ.2.2) (hφ2 : ph σ.2.2 ≤ BB) (h : B_Courts_isBarred_32 x1 z0 σ = some res) : NI g p l e s m args below meth c A 5 126 3 ad Rr φ0 res ta σ [(0, .ref (ad 7)), (1, .int x1)] 32 [.int z0] := by
  unfold B_Courts_isBarred_32 at h
  refine nw_istore_n (lv' := [(2, .int z0), (0, .ref (ad 7)), (1, .int x1)]) C dX1_isBarred_32 rfl (by decide) rfl ?_
  refine nw_aload_n C dX1_isBarred_33 rfl 1 rfl ?_
  refine nw_get (v := .ref (ad 3)) C in_X1 7 cl_Courts rfl 4 (by decide) tw_383 rfl rfl dX1_isBarred_34 ?_
  refine nc_callVI (q0 := 3) (As := []) (rest := []) C h (fun _ _ e => c_Laws_wordIsBar e hφ2) tw_1334 kv_X3_wordIsBar cl_Laws rfl ⟨Nat.le_of_ble_eq_true rfl, Nat.le_of_ble_eq_true rfl⟩ rfl dX1_isBarred_37 rfl (Nat.le_of_ble_eq_true rfl) hφ hφ2 (fun r37 σ37 ta h hφ hφ2 => ?_)
  refine nw_if_eq (tgt := 47) C dX1_isBarred_40 (by decide) h (fun _ h => ?_) (fun _ h => ?_)
  · refine nw_iconst (v := 0) C dX1_isBarred_47 (by decide) ?_
    exact nc_zret C hr (Or.inl rfl) dX1_isBarred_48 hφ hφ2 h
  · refine nw_iload_n C dX1_isBarred_43 rfl 0 rfl ?_
    refine nw_if_eq (tgt := 49) C dX1_isBarred_44 (by decide) h (fun _ h => ?_) (fun _ h => ?_)
    · refine nw_aload_n C dX1_isBarred_49 rfl 1 rfl ?_
      refine nw_get (v := .ref (ad 6)) C in_X1 7 cl_Courts rfl 6 (by decide) tw_385 rfl rfl dX1_isBarred_50 ?_
      refine nw_aload_n C dX1_isBarred_53 rfl 1 rfl ?_
      refine nw_get (v := .ref (ad 21)) C in_X1 7 cl_Courts rfl 1 (by decide) tw_378 rfl rfl dX1_isBarred_54 ?_
      refine nw_iload_n C dX1_isBarred_57 rfl 2 rfl ?_
      refine nw_iconst (v := 0) C dX1_isBarred_58 (by decide) ?_
      refine nc_callVI (q0 := 21) (As := [.int x1, .int 0]) (rest := [.ref (ad 6)]) C h (fun _ _ e => c_Table_get 10 (by decide) e hφ2) tw_799 kv_X9_get (cl_T 10 (by decide)) rfl ⟨Nat.le_of_ble_eq_true rfl, Nat.le_of_ble_eq_true rfl⟩ rfl dX1_isBarred_59 rfl (Nat.le_of_ble_eq_true rfl) hφ hφ2 (fun r59 σ59 ta h hφ hφ2 => ?_)
      refine nw_aload_n C dX1_isBarred_62 rfl 1 rfl ?_
      refine nw_get (v := .ref (ad 21)) C in_X1 7 cl_Courts rfl 1 (by decide) tw_378 rfl rfl dX1_isBarred_63 ?_
      refine nw_iload_n C dX1_isBarred_66 rfl 2 rfl ?_
      refine nw_iconst (v := 1) C dX1_isBarred_67 (by decide) ?_
      refine nc_callVI (q0 := 21) (As := [.int x1, .int 1]) (rest := [.int r59, .ref (ad 6)]) C h (fun _ _ e => c_Table_get 10 (by decide) e hφ2) tw_799 kv_X9_get (cl_T 10 (by decide)) rfl ⟨Nat.le_of_ble_eq_true rfl, Nat.le_of_ble_eq_true rfl⟩ rfl dX1_isBarred_68 rfl (Nat.le_of_ble_eq_true rfl) hφ hφ2 (fun r68 σ68 ta h hφ hφ2 => ?_)
      refine nw_aload_n C dX1_isBarred_71 rfl 1 rfl ?_
      refine nw_get (v := .ref (ad 21)) C in_X1 7 cl_Courts rfl 1 (by decide) tw_378 rfl rfl dX1_isBarred_72 ?_
      refine nw_iload_n C dX1_isBarred_75 rfl 2 rfl ?_
      refine nw_iconst (v := 2) C dX1_isBarred_76 (by decide) ?_
      refine nc_callVI (q0 := 21) (As := [.int x1, .int 2]) (rest := [.int r68, .int r59, .ref (ad 6)]) C h (fun _ _ e => c_Table_get 10 (by decide) e hφ2) tw_799 kv_X9_get (cl_T 10 (by decide)) rfl ⟨Nat.le_of_ble_eq_true rfl, Nat.le_of_ble_eq_true rfl⟩ rfl dX1_isBarred_77 rfl (Nat.le_of_ble_eq_true rfl) hφ hφ2 (fun r77 σ77 ta h hφ hφ2 => ?_)
      refine nw_aload_n C dX1_isBarred_80 rfl 1 rfl ?_
      refine nw_get (v := .ref (ad 21)) C in_X1 7 cl_Courts rfl 1 (by decide) tw_378 rfl rfl dX1_isBarred_81 ?_
      refine nw_iload_n C dX1_isBarred_84 rfl 2 rfl ?_
      refine nw_iconst (v := 3) C dX1_isBarred_85 (by decide) ?_
      refine nc_callVI (q0 := 21) (As := [.int x1, .int 3]) (rest := [.int r77, .int r68, .int r59, .ref (ad 6)]) C h (fun _ _ e => c_Table_get 10 (by decide) e hφ2) tw_799 kv_X9_get (cl_T 10 (by decide)) rfl ⟨Nat.le_of_ble_eq_true rfl, Nat.le_of_ble_eq_true rfl⟩ rfl dX1_isBarred_86 rfl (Nat.le_of_ble_eq_true rfl) hφ hφ2 (fun r86 σ86 ta h hφ hφ2 => ?_)
      refine nw_aload_n C dX1_isBarred_89 rfl 1 rfl ?_
      refine nw_get (v := .ref (ad 21)) C in_X1 7 cl_Courts rfl 1 (by decide) tw_378 rfl rfl dX1_isBarred_90 ?_
      refine nw_iload_n C dX1_isBarred_93 rfl 2 rfl ?_
      refine nw_iconst (v := 4) C dX1_isBarred_94 (by decide) ?_
      refine nc_callVI (q0 := 21) (As := [.int x1, .int 4]) (rest := [.int r86, .int r77, .int r68, .int r59, .ref (ad 6)]) C h (fun _ _ e => c_Table_get 10 (by decide) e hφ2) tw_799 kv_X9_get (cl_T 10 (by decide)) rfl ⟨Nat.le_of_ble_eq_true rfl, Nat.le_of_ble_eq_true rfl⟩ rfl dX1_isBarred_95 rfl (Nat.le_of_ble_eq_true rfl) hφ hφ2 (fun r95 σ95 ta h hφ hφ2 => ?_)
      refine nc_callVI (q0 := 6) (As := [.int r59, .int r68, .int r77, .int r86, .int r95]) (rest := []) C h (fun _ _ e => c_Claims_allows e hφ2) tw_1338 kv_X0_allows cl_Claims rfl ⟨Nat.le_of_ble_eq_true rfl, Nat.le_of_ble_eq_true rfl⟩ rfl dX1_isBarred_98 rfl (Nat.le_of_ble_eq_true rfl) hφ hφ2 (fun r98 σ98 ta h hφ hφ2 => ?_)
      refine nw_if_ne (tgt := 108) C dX1_isBarred_101 (by decide) h (fun _ h => ?_) (fun _ h => ?_)
      · refine nw_iconst (v := 1) C dX1_isBarred_104 (by decide) ?_
        refine nw_goto (tgt := 109) C dX1_isBarred_105 (by decide) ?_
        exact nc_zret C hr (Or.inr rfl) dX1_isBarred_109 hφ hφ2 h
      · refine nw_iconst (v := 0) C dX1_isBarred_108 (by decide) ?_
        exact nc_zret C hr (Or.inl rfl) dX1_isBarred_109 hφ hφ2 h
    · refine nw_iconst (v := 0) C dX1_isBarred_47 (by decide) ?_
      exact nc_zret C hr (Or.inl rfl) dX1_isBarred_48 hφ hφ2 h
def f_Courts_isBarred (p0 : Int32) (σ : CS) : Option (Int32 × CS) := bnd (f_Courts_hearLaws p0 σ) (fun _ σ2 => bnd (f_FTable_get 0 4 σ2) (fun r11 σ11 => bnd (f_FTable_get 0 5 σ11) (fun r20 σ20 => if (r11 + r20) = 0 then B_Courts_isBarred_32 p0 1 σ20 else B_Courts_isBarred_32 p0 0 σ20)))
set_option maxHeartbeats 4000000 in
set_option maxRecDepth 100000 in
theorem c_Courts_isBarred {l : Launch} {g : EG} {ad ta : Nat → Nat} {Rr : va_W} {σ σ' : CS} {r : Int32} {p0 : Int32}  (h : f_Courts_isBarred p0 σ = some (r, σ')) (hφ2 : ph σ.2.2 ≤ BB) : CtI l g yX1_isBarred (.code yX1_isBarred cX1_isBarred 3 (some .boolean)) 5 126 ad ta Rr σ [.ref (ad 7), .int p0] r σ' := by
  refine Ct.of rfl (by decide) (Nat.le_of_ble_eq_true rfl) ?_
  intro p e s m args below meth c A C hr
  have hφ : ph σ.2.2 ≤ ph σ.2.2 := Nat.le_refl _
  refine nw_zero (ph σ.2.2) ?_
  show NI g p l e s m args below meth c A 5 126 3 ad Rr (ph σ.2.2) (r, σ') ta σ [(0, .ref (ad 7)), (1, .int p0)] 0 []
  unfold f_Courts_isBarred at h
  refine nw_aload_n C dX1_isBarred_0 rfl 0 rfl ?_
  refine nw_iload_n C dX1_isBarred_1 rfl 1 rfl ?_
  refine nc_callVV (q0 := 7) (As := [.int p0]) (rest := []) C h (fun _ _ e => c_Courts_hearLaws e hφ2) tw_861 kv_X1_hearLaws cl_Courts rfl ⟨Nat.le_of_ble_eq_true rfl, Nat.le_of_ble_eq_true rfl⟩ rfl dX1_isBarred_2 rfl (Nat.le_of_ble_eq_true rfl) hφ hφ2 (fun r2 σ2 ta h hφ hφ2 => ?_)
  refine nw_aload_n C dX1_isBarred_5 rfl 0 rfl ?_
  refine nw_get (v := .ref (ad 59)) C in_X1 7 cl_Courts rfl 7 (by decide) tw_386 rfl rfl dX1_isBarred_6 ?_
  refine nw_iconst (v := 0) C dX1_isBarred_9 (by decide) ?_
  refine nw_iconst (v := 4) C dX1_isBarred_10 (by decide) ?_
  refine nc_callVI (q0 := 59) (As := [.int 0, .int 4]) (rest := []) C h (fun _ _ e => c_FTable_get e hφ2) tw_799 kv_X9_get cl_Facts rfl ⟨Nat.le_of_ble_eq_true rfl, Nat.le_of_ble_eq_true rfl⟩ rfl dX1_isBarred_11 rfl (Nat.le_of_ble_eq_true rfl) hφ hφ2 (fun r11 σ11 ta h hφ hφ2 => ?_)
  refine nw_aload_n C dX1_isBarred_14 rfl 0 rfl ?_
  refine nw_get (v := .ref (ad 59)) C in_X1 7 cl_Courts rfl 7 (by decide) tw_386 rfl rfl dX1_isBarred_15 ?_
  refine nw_iconst (v := 0) C dX1_isBarred_18 (by decide) ?_
  refine nw_iconst (v := 5) C dX1_isBarred_19 (by decide) ?_
  refine nc_callVI (q0 := 59) (As := [.int 0, .int 5]) (rest := [.int r11]) C h (fun _ _ e => c_FTable_get e hφ2) tw_799 kv_X9_get cl_Facts rfl ⟨Nat.le_of_ble_eq_true rfl, Nat.le_of_ble_eq_true rfl⟩ rfl dX1_isBarred_20 rfl (Nat.le_of_ble_eq_true rfl) hφ hφ2 (fun r20 σ20 ta h hφ hφ2 => ?_)
  refine nw_iadd C dX1_isBarred_23 ?_
  refine nw_if_ne (tgt := 31) C dX1_isBarred_24 (by decide) h (fun _ h => ?_) (fun _ h => ?_)
  · refine nw_iconst (v := 1) C dX1_isBarred_27 (by decide) ?_
    refine nw_goto (tgt := 32) C dX1_isBarred_28 (by decide) ?_
    exact nw_lv (lv' := [(0, .ref (ad 7)), (1, .int p0)]) [0, 1] rfl (w_Courts_isBarred_32 C hr p0 1 _ _ hφ hφ2 h)
  · refine nw_iconst (v := 0) C dX1_isBarred_31 (by decide) ?_
    exact nw_lv (lv' := [(0, .ref (ad 7)), (1, .int p0)]) [0, 1] rfl (w_Courts_isBarred_32 C hr p0 0 _ _ hφ hφ2 h)
end
