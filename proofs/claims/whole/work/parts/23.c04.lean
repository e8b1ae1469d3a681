section
variable {g : EG} {p : Program} {l : Launch} {e : Env} {s : State} {m : MethodId} {args : Array Value} {below : List Frame} {meth : Method} {c : Code} {A : Nat → Prop} {ad am ta : Nat → Nat} {Rr : va_W} {φ0 : Nat}
theorem dX1_addPresentment_0 : decode cX1_addPresentment 0 = .ok (.aload_n 0, 1) := by decide +kernel
theorem dX1_addPresentment_1 : decode cX1_addPresentment 1 = .ok (.getfield 39, 3) := by decide +kernel
theorem dX1_addPresentment_4 : decode cX1_addPresentment 4 = .ok (.invokevirtual 96, 3) := by decide +kernel
theorem dX1_addPresentment_7 : decode cX1_addPresentment 7 = .ok (.ifCond .eq 5, 3) := by decide +kernel
theorem dX1_addPresentment_10 : decode cX1_addPresentment 10 = .ok (.iconst (-1), 1) := by decide +kernel
theorem dX1_addPresentment_11 : decode cX1_addPresentment 11 = .ok (.ireturn, 1) := by decide +kernel
theorem dX1_addPresentment_12 : decode cX1_addPresentment 12 = .ok (.aload_n 0, 1) := by decide +kernel
theorem dX1_addPresentment_13 : decode cX1_addPresentment 13 = .ok (.getfield 36, 3) := by decide +kernel
theorem dX1_addPresentment_16 : decode cX1_addPresentment 16 = .ok (.iload_n 1, 1) := by decide +kernel
theorem dX1_addPresentment_17 : decode cX1_addPresentment 17 = .ok (.bipush 6, 2) := by decide +kernel
theorem dX1_addPresentment_19 : decode cX1_addPresentment 19 = .ok (.invokevirtual 57, 3) := by decide +kernel
theorem dX1_addPresentment_22 : decode cX1_addPresentment 22 = .ok (.iconst (-1), 1) := by decide +kernel
theorem dX1_addPresentment_23 : decode cX1_addPresentment 23 = .ok (.if_icmp .eq 6, 3) := by decide +kernel
theorem dX1_addPresentment_26 : decode cX1_addPresentment 26 = .ok (.bipush (-2), 2) := by decide +kernel
theorem dX1_addPresentment_28 : decode cX1_addPresentment 28 = .ok (.ireturn, 1) := by decide +kernel
theorem dX1_addPresentment_29 : decode cX1_addPresentment 29 = .ok (.aload_n 0, 1) := by decide +kernel
theorem dX1_addPresentment_30 : decode cX1_addPresentment 30 = .ok (.iload_n 1, 1) := by decide +kernel
theorem dX1_addPresentment_31 : decode cX1_addPresentment 31 = .ok (.invokevirtual 99, 3) := by decide +kernel
theorem dX1_addPresentment_34 : decode cX1_addPresentment 34 = .ok (.ifCond .ne 6, 3) := by decide +kernel
theorem dX1_addPresentment_37 : decode cX1_addPresentment 37 = .ok (.bipush (-3), 2) := by decide +kernel
theorem dX1_addPresentment_39 : decode cX1_addPresentment 39 = .ok (.ireturn, 1) := by decide +kernel
theorem dX1_addPresentment_40 : decode cX1_addPresentment 40 = .ok (.aload_n 0, 1) := by decide +kernel
theorem dX1_addPresentment_41 : decode cX1_addPresentment 41 = .ok (.getfield 36, 3) := by decide +kernel
theorem dX1_addPresentment_44 : decode cX1_addPresentment 44 = .ok (.iload_n 1, 1) := by decide +kernel
theorem dX1_addPresentment_45 : decode cX1_addPresentment 45 = .ok (.iconst 0, 1) := by decide +kernel
theorem dX1_addPresentment_46 : decode cX1_addPresentment 46 = .ok (.invokevirtual 57, 3) := by decide +kernel
theorem dX1_addPresentment_49 : decode cX1_addPresentment 49 = .ok (.istore 5, 2) := by decide +kernel
theorem dX1_addPresentment_51 : decode cX1_addPresentment 51 = .ok (.aload_n 0, 1) := by decide +kernel
theorem dX1_addPresentment_52 : decode cX1_addPresentment 52 = .ok (.getfield 19, 3) := by decide +kernel
theorem dX1_addPresentment_55 : decode cX1_addPresentment 55 = .ok (.iload_n 3, 1) := by decide +kernel
theorem dX1_addPresentment_56 : decode cX1_addPresentment 56 = .ok (.invokevirtual 103, 3) := by decide +kernel
theorem dX1_addPresentment_59 : decode cX1_addPresentment 59 = .ok (.ifCond .eq 34, 3) := by decide +kernel
theorem dX1_addPresentment_62 : decode cX1_addPresentment 62 = .ok (.aload_n 0, 1) := by decide +kernel
theorem dX1_addPresentment_63 : decode cX1_addPresentment 63 = .ok (.getfield 19, 3) := by decide +kernel
theorem dX1_addPresentment_66 : decode cX1_addPresentment 66 = .ok (.iload 4, 2) := by decide +kernel
theorem dX1_addPresentment_68 : decode cX1_addPresentment 68 = .ok (.invokevirtual 103, 3) := by decide +kernel
theorem dX1_addPresentment_71 : decode cX1_addPresentment 71 = .ok (.ifCond .eq 22, 3) := by decide +kernel
theorem dX1_addPresentment_74 : decode cX1_addPresentment 74 = .ok (.iload_n 3, 1) := by decide +kernel
theorem dX1_addPresentment_75 : decode cX1_addPresentment 75 = .ok (.iload 5, 2) := by decide +kernel
theorem dX1_addPresentment_77 : decode cX1_addPresentment 77 = .ok (.if_icmp .eq 16, 3) := by decide +kernel
theorem dX1_addPresentment_80 : decode cX1_addPresentment 80 = .ok (.iload 4, 2) := by decide +kernel
theorem dX1_addPresentment_82 : decode cX1_addPresentment 82 = .ok (.iload 5, 2) := by decide +kernel
theorem dX1_addPresentment_84 : decode cX1_addPresentment 84 = .ok (.if_icmp .eq 9, 3) := by decide +kernel
theorem dX1_addPresentment_87 : decode cX1_addPresentment 87 = .ok (.iload_n 3, 1) := by decide +kernel
theorem dX1_addPresentment_88 : decode cX1_addPresentment 88 = .ok (.iload 4, 2) := by decide +kernel
theorem dX1_addPresentment_90 : decode cX1_addPresentment 90 = .ok (.if_icmp .ne 6, 3) := by decide +kernel
theorem dX1_addPresentment_93 : decode cX1_addPresentment 93 = .ok (.bipush (-4), 2) := by decide +kernel
theorem dX1_addPresentment_95 : decode cX1_addPresentment 95 = .ok (.ireturn, 1) := by decide +kernel
theorem dX1_addPresentment_96 : decode cX1_addPresentment 96 = .ok (.aload_n 0, 1) := by decide +kernel
theorem dX1_addPresentment_97 : decode cX1_addPresentment 97 = .ok (.getfield 39, 3) := by decide +kernel
theorem dX1_addPresentment_100 : decode cX1_addPresentment 100 = .ok (.invokevirtual 45, 3) := by decide +kernel
theorem dX1_addPresentment_103 : decode cX1_addPresentment 103 = .ok (.istore 6, 2) := by decide +kernel
theorem dX1_addPresentment_105 : decode cX1_addPresentment 105 = .ok (.aload_n 0, 1) := by decide +kernel
theorem dX1_addPresentment_106 : decode cX1_addPresentment 106 = .ok (.getfield 36, 3) := by decide +kernel
theorem dX1_addPresentment_109 : decode cX1_addPresentment 109 = .ok (.iload_n 1, 1) := by decide +kernel
theorem dX1_addPresentment_110 : decode cX1_addPresentment 110 = .ok (.bipush 6, 2) := by decide +kernel
theorem dX1_addPresentment_112 : decode cX1_addPresentment 112 = .ok (.iload 6, 2) := by decide +kernel
theorem dX1_addPresentment_114 : decode cX1_addPresentment 114 = .ok (.invokevirtual 53, 3) := by decide +kernel
theorem dX1_addPresentment_117 : decode cX1_addPresentment 117 = .ok (.aload_n 0, 1) := by decide +kernel
theorem dX1_addPresentment_118 : decode cX1_addPresentment 118 = .ok (.getfield 39, 3) := by decide +kernel
theorem dX1_addPresentment_121 : decode cX1_addPresentment 121 = .ok (.iload 6, 2) := by decide +kernel
theorem dX1_addPresentment_123 : decode cX1_addPresentment 123 = .ok (.iconst 0, 1) := by decide +kernel
theorem dX1_addPresentment_124 : decode cX1_addPresentment 124 = .ok (.iconst 0, 1) := by decide +kernel
theorem dX1_addPresentment_125 : decode cX1_addPresentment 125 = .ok (.invokevirtual 53, 3) := by decide +kernel
theorem dX1_addPresentment_128 : decode cX1_addPresentment 128 = .ok (.aload_n 0, 1) := by decide +kernel
theorem dX1_addPresentment_129 : decode cX1_addPresentment 129 = .ok (.getfield 39, 3) := by decide +kernel
theorem dX1_addPresentment_132 : decode cX1_addPresentment 132 = .ok (.iload 6, 2) := by decide +kernel
theorem dX1_addPresentment_134 : decode cX1_addPresentment 134 = .ok (.iconst 1, 1) := by decide +kernel
theorem dX1_addPresentment_135 : decode cX1_addPresentment 135 = .ok (.iload 5, 2) := by decide +kernel
theorem dX1_addPresentment_137 : decode cX1_addPresentment 137 = .ok (.invokevirtual 53, 3) := by decide +kernel
theorem dX1_addPresentment_140 : decode cX1_addPresentment 140 = .ok (.aload_n 0, 1) := by decide +kernel
theorem dX1_addPresentment_141 : decode cX1_addPresentment 141 = .ok (.getfield 39, 3) := by decide +kernel
theorem dX1_addPresentment_144 : decode cX1_addPresentment 144 = .ok (.iload 6, 2) := by decide +kernel
theorem dX1_addPresentment_146 : decode cX1_addPresentment 146 = .ok (.iconst 2, 1) := by decide +kernel
theorem dX1_addPresentment_147 : decode cX1_addPresentment 147 = .ok (.aload_n 0, 1) := by decide +kernel
theorem dX1_addPresentment_148 : decode cX1_addPresentment 148 = .ok (.getfield 106, 3) := by decide +kernel
theorem dX1_addPresentment_151 : decode cX1_addPresentment 151 = .ok (.invokevirtual 53, 3) := by decide +kernel
theorem dX1_addPresentment_154 : decode cX1_addPresentment 154 = .ok (.aload_n 0, 1) := by decide +kernel
theorem dX1_addPresentment_155 : decode cX1_addPresentment 155 = .ok (.getfield 39, 3) := by decide +kernel
theorem dX1_addPresentment_158 : decode cX1_addPresentment 158 = .ok (.iload 6, 2) := by decide +kernel
theorem dX1_addPresentment_160 : decode cX1_addPresentment 160 = .ok (.bipush 8, 2) := by decide +kernel
theorem dX1_addPresentment_162 : decode cX1_addPresentment 162 = .ok (.iload_n 1, 1) := by decide +kernel
theorem dX1_addPresentment_163 : decode cX1_addPresentment 163 = .ok (.invokevirtual 53, 3) := by decide +kernel
theorem dX1_addPresentment_166 : decode cX1_addPresentment 166 = .ok (.aload_n 0, 1) := by decide +kernel
theorem dX1_addPresentment_167 : decode cX1_addPresentment 167 = .ok (.getfield 39, 3) := by decide +kernel
theorem dX1_addPresentment_170 : decode cX1_addPresentment 170 = .ok (.iload 6, 2) := by decide +kernel
theorem dX1_addPresentment_172 : decode cX1_addPresentment 172 = .ok (.bipush 9, 2) := by decide +kernel
theorem dX1_addPresentment_174 : decode cX1_addPresentment 174 = .ok (.iload_n 2, 1) := by decide +kernel
theorem dX1_addPresentment_175 : decode cX1_addPresentment 175 = .ok (.invokevirtual 53, 3) := by decide +kernel
theorem dX1_addPresentment_178 : decode cX1_addPresentment 178 = .ok (.aload_n 0, 1) := by decide +kernel
theorem dX1_addPresentment_179 : decode cX1_addPresentment 179 = .ok (.getfield 39, 3) := by decide +kernel
theorem dX1_addPresentment_182 : decode cX1_addPresentment 182 = .ok (.iload 6, 2) := by decide +kernel
theorem dX1_addPresentment_184 : decode cX1_addPresentment 184 = .ok (.bipush 10, 2) := by decide +kernel
theorem dX1_addPresentment_186 : decode cX1_addPresentment 186 = .ok (.iload_n 3, 1) := by decide +kernel
theorem dX1_addPresentment_187 : decode cX1_addPresentment 187 = .ok (.invokevirtual 53, 3) := by decide +kernel
theorem dX1_addPresentment_190 : decode cX1_addPresentment 190 = .ok (.aload_n 0, 1) := by decide +kernel
theorem dX1_addPresentment_191 : decode cX1_addPresentment 191 = .ok (.getfield 39, 3) := by decide +kernel
theorem dX1_addPresentment_194 : decode cX1_addPresentment 194 = .ok (.iload 6, 2) := by decide +kernel
theorem dX1_addPresentment_196 : decode cX1_addPresentment 196 = .ok (.bipush 11, 2) := by decide +kernel
theorem dX1_addPresentment_198 : decode cX1_addPresentment 198 = .ok (.iload 4, 2) := by decide +kernel
theorem dX1_addPresentment_200 : decode cX1_addPresentment 200 = .ok (.invokevirtual 53, 3) := by decide +kernel
theorem dX1_addPresentment_203 : decode cX1_addPresentment 203 = .ok (.aload_n 0, 1) := by decide +kernel
theorem dX1_addPresentment_204 : decode cX1_addPresentment 204 = .ok (.getfield 39, 3) := by decide +kernel
theorem dX1_addPresentment_207 : decode cX1_addPresentment 207 = .ok (.iload 6, 2) := by decide +kernel
theorem dX1_addPresentment_209 : decode cX1_addPresentment 209 = .ok (.bipush 12, 2) := by decide +kernel
theorem dX1_addPresentment_211 : decode cX1_addPresentment 211 = .ok (.iconst 0, 1) := by decide +kernel
theorem dX1_addPresentment_212 : decode cX1_addPresentment 212 = .ok (.invokevirtual 53, 3) := by decide +kernel
theorem dX1_addPresentment_215 : decode cX1_addPresentment 215 = .ok (.iconst 4, 1) := by decide +kernel
theorem dX1_addPresentment_216 : decode cX1_addPresentment 216 = .ok (.istore 7, 2) := by decide +kernel
theorem dX1_addPresentment_218 : decode cX1_addPresentment 218 = .ok (.iload 7, 2) := by decide +kernel
theorem dX1_addPresentment_220 : decode cX1_addPresentment 220 = .ok (.bipush 7, 2) := by decide +kernel
theorem dX1_addPresentment_222 : decode cX1_addPresentment 222 = .ok (.if_icmp .gt 21, 3) := by decide +kernel
theorem dX1_addPresentment_225 : decode cX1_addPresentment 225 = .ok (.aload_n 0, 1) := by decide +kernel
theorem dX1_addPresentment_226 : decode cX1_addPresentment 226 = .ok (.getfield 39, 3) := by decide +kernel
theorem dX1_addPresentment_229 : decode cX1_addPresentment 229 = .ok (.iload 6, 2) := by decide +kernel
theorem dX1_addPresentment_231 : decode cX1_addPresentment 231 = .ok (.iload 7, 2) := by decide +kernel
theorem dX1_addPresentment_233 : decode cX1_addPresentment 233 = .ok (.iconst 0, 1) := by decide +kernel
theorem dX1_addPresentment_234 : decode cX1_addPresentment 234 = .ok (.invokevirtual 53, 3) := by decide +kernel
theorem dX1_addPresentment_237 : decode cX1_addPresentment 237 = .ok (.iinc 7 1, 3) := by decide +kernel
theorem dX1_addPresentment_240 : decode cX1_addPresentment 240 = .ok (.goto (-22), 3) := by decide +kernel
theorem dX1_addPresentment_243 : decode cX1_addPresentment 243 = .ok (.iload 6, 2) := by decide +kernel
theorem dX1_addPresentment_245 : decode cX1_addPresentment 245 = .ok (.ireturn, 1) := by decide +kernel
def L_Courts_addPresentment_218  (x6 : Int32) : Nat → Int32 → CS → Option (Int32 × CS)
  | 0, _, _ => none
  | n + 1, x7, σ => if 7 < x7 then some (x6, σ) else bnd (f_Table_put 11 x6 x7 0 σ) (fun _ σ234 => (L_Courts_addPresentment_218 x6 n) (x7 + 1) σ234)
set_option maxHeartbeats 4000000 in
set_option maxRecDepth 100000 in
theorem w_Courts_addPresentment_218 (C : Cx g p s m args meth c A 8 cX1_addPresentment yX1_addPresentment.cls) (hr : meth.sig.returnType = (some .int))  {res : Int32 × CS}  (x6 : Int32)  : ∀ (n : Nat) (x7 : Int32) (σ : CS) (ta : Nat → Nat), φ0 ≤ ph σ.2.2 → ph σ.2.2 ≤ BB → L_Courts_addPresentment_218 x6 n x7 σ = some res → NI g p l e s m args below meth c A 6 222 8 ad Rr φ0 res ta σ [(0, .ref (ad 7)), (6, .int x6), (7, .int x7)] 218 [] := by
  intro n
  induction n with
  | zero =>
    intro x7 σ ta hφ hφ2 h
    exact absurd (show (none : Option (Int32 × CS)) = some res from h) (by intro h9; cases h9)
  | succ n ih =>
    intro x7 σ ta hφ hφ2 h
    rw [L_Courts_addPresentment_218] at h
    refine nw_iload C dX1_addPresentment_218 2 rfl ?_
    refine nw_bipush (v := 7) C dX1_addPresentment_220 (by decide) ?_
    refine nw_icmp_gt (tgt := 243) C dX1_addPresentment_222 (by decide) h (fun _ h => ?_) (fun _ h => ?_)
    · refine nw_iload C dX1_addPresentment_243 1 rfl ?_
      exact nc_iret C hr dX1_addPresentment_245 hφ hφ2 h
    · refine nw_aload_n C dX1_addPresentment_225 rfl 0 rfl ?_
      refine nw_get (v := .ref (ad 22)) C in_X1 7 cl_Courts rfl 2 (by decide) tw_380 rfl rfl dX1_addPresentment_226 ?_
      refine nw_iload C dX1_addPresentment_229 1 rfl ?_
      refine nw_iload C dX1_addPresentment_231 2 rfl ?_
      refine nw_iconst (v := 0) C dX1_addPresentment_233 (by decide) ?_
      refine nc_callVV (q0 := 22) (As := [.int x6, .int x7, .int 0]) (rest := []) C h (fun _ _ e => c_Table_put 11 (by decide) e hφ2) tw_823 kv_X9_put (cl_T 11 (by decide)) rfl ⟨Nat.le_of_ble_eq_true rfl, Nat.le_of_ble_eq_true rfl⟩ rfl dX1_addPresentment_234 rfl (Nat.le_of_ble_eq_true rfl) hφ hφ2 (fun r234 σ234 ta h hφ hφ2 => ?_)
      refine nw_iinc (lv' := [(7, .int (x7 + 1)), (0, .ref (ad 7)), (6, .int x6)]) C (x7 + 1) dX1_addPresentment_237 2 rfl rfl (by decide) rfl ?_
      refine nw_goto (tgt := 218) C dX1_addPresentment_240 (by decide) ?_
      exact nw_lv (lv' := [(0, .ref (ad 7)), (6, .int x6), (7, .int (x7 + 1))]) [1, 2, 0] rfl (ih (x7 + 1) _ _ hφ hφ2 h)
def f_Courts_addPresentment (p0 : Int32) (p1 : Int32) (p2 : Int32) (p3 : Int32) (σ : CS) : Option (Int32 × CS) := bnd (f_Table_isFull 11 σ) (fun r4 σ4 => if r4 = 0 then bnd (f_Table_get 10 p0 6 σ4) (fun r19 σ19 => if r19 = (-1) then bnd (f_Courts_isBarred p0 σ19) (fun r31 σ31 => if r31 = 0 then some ((-3), σ31) else bnd (f_Table_get 10 p0 0 σ31) (fun r46 σ46 => bnd (f_People_lives p2 σ46) (fun r56 σ56 => if r56 = 0 then some ((-4), σ56) else bnd (f_People_lives p3 σ56) (fun r68 σ68 => if r68 = 0 then some ((-4), σ68) else if p2 = r46 then some ((-4), σ68) else if p3 = r46 then some ((-4), σ68) else if p2 = p3 then some ((-4), σ68) else bnd (f_Table_add 11 σ68) (fun r100 σ100 => bnd (f_Table_put 10 p0 6 r100 σ100) (fun _ σ114 => bnd (f_Table_put 11 r100 0 0 σ114) (fun _ σ125 => bnd (f_Table_put 11 r100 1 r46 σ125) (fun _ σ137 => bnd (f_Table_put 11 r100 2 (σ137.1 62) σ137) (fun _ σ151 => bnd (f_Table_put 11 r100 8 p0 σ151) (fun _ σ163 => bnd (f_Table_put 11 r100 9 p1 σ163) (fun _ σ175 => bnd (f_Table_put 11 r100 10 p2 σ175) (fun _ σ187 => bnd (f_Table_put 11 r100 11 p3 σ187) (fun _ σ200 => bnd (f_Table_put 11 r100 12 0 σ200) (fun _ σ212 => L_Courts_addPresentment_218 r100 FU 4 σ212)))))))))))))) else some ((-2), σ19)) else some ((-1), σ4))
set_option maxHeartbeats 4000000 in
set_option maxRecDepth 100000 in
theorem c_Courts_addPresentment {l : Launch} {g : EG} {ad ta : Nat → Nat} {Rr : va_W} {σ σ' : CS} {r : Int32} {p0 : Int32} {p1 : Int32} {p2 : Int32} {p3 : Int32}  (h : f_Courts_addPresentment p0 p1 p2 p3 σ = some (r, σ')) (hφ2 : ph σ.2.2 ≤ BB) : CtI l g yX1_addPresentment (.code yX1_addPresentment cX1_addPresentment 8 (some .int)) 6 222 ad ta Rr σ [.ref (ad 7), .int p0, .int p1, .int p2, .int p3] r σ' := by
  refine Ct.of rfl (by decide) (Nat.le_of_ble_eq_true rfl) ?_
  intro p e s m args below meth c A C hr
  have hφ : ph σ.2.2 ≤ ph σ.2.2 := Nat.le_refl _
  refine nw_zero (ph σ.2.2) ?_
  show NI g p l e s m args below meth c A 6 222 8 ad Rr (ph σ.2.2) (r, σ') ta σ [(0, .ref (ad 7)), (1, .int p0), (2, .int p1), (3, .int p2), (4, .int p3)] 0 []
  unfold f_Courts_addPresentment at h
  refine nw_aload_n C dX1_addPresentment_0 rfl 0 rfl ?_
  refine nw_get (v := .ref (ad 22)) C in_X1 7 cl_Courts rfl 2 (by decide) tw_380 rfl rfl dX1_addPresentment_1 ?_
  refine nc_callVI (q0 := 22) (As := []) (rest := []) C h (fun _ _ e => c_Table_isFull 11 (by decide) e hφ2) tw_1393 kv_X9_isFull (cl_T 11 (by decide)) rfl ⟨Nat.le_of_ble_eq_true rfl, Nat.le_of_ble_eq_true rfl⟩ rfl dX1_addPresentment_4 rfl (Nat.le_of_ble_eq_true rfl) hφ hφ2 (fun r4 σ4 ta h hφ hφ2 => ?_)
  refine nw_if_eq (tgt := 12) C dX1_addPresentment_7 (by decide) h (fun _ h => ?_) (fun _ h => ?_)
  · refine nw_aload_n C dX1_addPresentment_12 rfl 0 rfl ?_
    refine nw_get (v := .ref (ad 21)) C in_X1 7 cl_Courts rfl 1 (by decide) tw_378 rfl rfl dX1_addPresentment_13 ?_
    refine nw_iload_n C dX1_addPresentment_16 rfl 1 rfl ?_
    refine nw_bipush (v := 6) C dX1_addPresentment_17 (by decide) ?_
    refine nc_callVI (q0 := 21) (As := [.int p0, .int 6]) (rest := []) C h (fun _ _ e => c_Table_get 10 (by decide) e hφ2) tw_799 kv_X9_get (cl_T 10 (by decide)) rfl ⟨Nat.le_of_ble_eq_true rfl, Nat.le_of_ble_eq_true rfl⟩ rfl dX1_addPresentment_19 rfl (Nat.le_of_ble_eq_true rfl) hφ hφ2 (fun r19 σ19 ta h hφ hφ2 => ?_)
    refine nw_iconst (v := (-1)) C dX1_addPresentment_22 (by decide) ?_
    refine nw_icmp_eq (tgt := 29) C dX1_addPresentment_23 (by decide) h (fun _ h => ?_) (fun _ h => ?_)
    · refine nw_aload_n C dX1_addPresentment_29 rfl 0 rfl ?_
      refine nw_iload_n C dX1_addPresentment_30 rfl 1 rfl ?_
      refine nc_callVI (q0 := 7) (As := [.int p0]) (rest := []) C h (fun _ _ e => c_Courts_isBarred e hφ2) tw_1394 kv_X1_isBarred cl_Courts rfl ⟨Nat.le_of_ble_eq_true rfl, Nat.le_of_ble_eq_true rfl⟩ rfl dX1_addPresentment_31 rfl (Nat.le_of_ble_eq_true rfl) hφ hφ2 (fun r31 σ31 ta h hφ hφ2 => ?_)
      refine nw_if_ne (tgt := 40) C dX1_addPresentment_34 (by decide) h (fun _ h => ?_) (fun _ h => ?_)
      · refine nw_bipush (v := (-3)) C dX1_addPresentment_37 (by decide) ?_
        exact nc_iret C hr dX1_addPresentment_39 hφ hφ2 h
      · refine nw_aload_n C dX1_addPresentment_40 rfl 0 rfl ?_
        refine nw_get (v := .ref (ad 21)) C in_X1 7 cl_Courts rfl 1 (by decide) tw_378 rfl rfl dX1_addPresentment_41 ?_
        refine nw_iload_n C dX1_addPresentment_44 rfl 1 rfl ?_
        refine nw_iconst (v := 0) C dX1_addPresentment_45 (by decide) ?_
        refine nc_callVI (q0 := 21) (As := [.int p0, .int 0]) (rest := []) C h (fun _ _ e => c_Table_get 10 (by decide) e hφ2) tw_799 kv_X9_get (cl_T 10 (by decide)) rfl ⟨Nat.le_of_ble_eq_true rfl, Nat.le_of_ble_eq_true rfl⟩ rfl dX1_addPresentment_46 rfl (Nat.le_of_ble_eq_true rfl) hφ hφ2 (fun r46 σ46 ta h hφ hφ2 => ?_)
        refine nw_istore (lv' := [(5, .int r46), (0, .ref (ad 7)), (1, .int p0), (2, .int p1), (3, .int p2), (4, .int p3)]) C dX1_addPresentment_49 (by decide) rfl ?_
        refine nw_aload_n C dX1_addPresentment_51 rfl 1 rfl ?_
        refine nw_get (v := .ref (ad 5)) C in_X1 7 cl_Courts rfl 5 (by decide) tw_384 rfl rfl dX1_addPresentment_52 ?_
        refine nw_iload_n C dX1_addPresentment_55 rfl 4 rfl ?_
        refine nc_callVI (q0 := 5) (As := [.int p2]) (rest := []) C h (fun _ _ e => c_People_lives e hφ2) tw_804 kv_X5_lives cl_People rfl ⟨Nat.le_of_ble_eq_true rfl, Nat.le_of_ble_eq_true rfl⟩ rfl dX1_addPresentment_56 rfl (Nat.le_of_ble_eq_true rfl) hφ hφ2 (fun r56 σ56 ta h hφ hφ2 => ?_)
        refine nw_if_eq (tgt := 93) C dX1_addPresentment_59 (by decide) h (fun _ h => ?_) (fun _ h => ?_)
        · refine nw_bipush (v := (-4)) C dX1_addPresentment_93 (by decide) ?_
          exact nc_iret C hr dX1_addPresentment_95 hφ hφ2 h
        · refine nw_aload_n C dX1_addPresentment_62 rfl 1 rfl ?_
          refine nw_get (v := .ref (ad 5)) C in_X1 7 cl_Courts rfl 5 (by decide) tw_384 rfl rfl dX1_addPresentment_63 ?_
          refine nw_iload C dX1_addPresentment_66 5 rfl ?_
          refine nc_callVI (q0 := 5) (As := [.int p3]) (rest := []) C h (fun _ _ e => c_People_lives e hφ2) tw_804 kv_X5_lives cl_People rfl ⟨Nat.le_of_ble_eq_true rfl, Nat.le_of_ble_eq_true rfl⟩ rfl dX1_addPresentment_68 rfl (Nat.le_of_ble_eq_true rfl) hφ hφ2 (fun r68 σ68 ta h hφ hφ2 => ?_)
          refine nw_if_eq (tgt := 93) C dX1_addPresentment_71 (by decide) h (fun _ h => ?_) (fun _ h => ?_)
          · refine nw_bipush (v := (-4)) C dX1_addPresentment_93 (by decide) ?_
            exact nc_iret C hr dX1_addPresentment_95 hφ hφ2 h
          · refine nw_iload_n C dX1_addPresentment_74 rfl 4 rfl ?_
            refine nw_iload C dX1_addPresentment_75 0 rfl ?_
            refine nw_icmp_eq (tgt := 93) C dX1_addPresentment_77 (by decide) h (fun _ h => ?_) (fun _ h => ?_)
            · refine nw_bipush (v := (-4)) C dX1_addPresentment_93 (by decide) ?_
              exact nc_iret C hr dX1_addPresentment_95 hφ hφ2 h
            · refine nw_iload C dX1_addPresentment_80 5 rfl ?_
              refine nw_iload C dX1_addPresentment_82 0 rfl ?_
              refine nw_icmp_eq (tgt := 93) C dX1_addPresentment_84 (by decide) h (fun _ h => ?_) (fun _ h => ?_)
              · refine nw_bipush (v := (-4)) C dX1_addPresentment_93 (by decide) ?_
                exact nc_iret C hr dX1_addPresentment_95 hφ hφ2 h
              · refine nw_iload_n C dX1_addPresentment_87 rfl 4 rfl ?_
                refine nw_iload C dX1_addPresentment_88 5 rfl ?_
                refine nw_icmp_ne (tgt := 96) C dX1_addPresentment_90 (by decide) h (fun _ h => ?_) (fun _ h => ?_)
                · refine nw_bipush (v := (-4)) C dX1_addPresentment_93 (by decide) ?_
                  exact nc_iret C hr dX1_addPresentment_95 hφ hφ2 h
                · refine nw_aload_n C dX1_addPresentment_96 rfl 1 rfl ?_
                  refine nw_get (v := .ref (ad 22)) C in_X1 7 cl_Courts rfl 2 (by decide) tw_380 rfl rfl dX1_addPresentment_97 ?_
                  refine nc_callVI (q0 := 22) (As := []) (rest := []) C h (fun _ _ e => c_Table_add 11 (by decide) e hφ2) tw_348 kv_X9_add (cl_T 11 (by decide)) rfl ⟨Nat.le_of_ble_eq_true rfl, Nat.le_of_ble_eq_true rfl⟩ rfl dX1_addPresentment_100 rfl (Nat.le_of_ble_eq_true rfl) hφ hφ2 (fun r100 σ100 ta h hφ hφ2 => ?_)
                  refine nw_istore (lv' := [(6, .int r100), (5, .int r46), (0, .ref (ad 7)), (1, .int p0), (2, .int p1), (3, .int p2), (4, .int p3)]) C dX1_addPresentment_103 (by decide) rfl ?_
                  refine nw_aload_n C dX1_addPresentment_105 rfl 2 rfl ?_
                  refine nw_get (v := .ref (ad 21)) C in_X1 7 cl_Courts rfl 1 (by decide) tw_378 rfl rfl dX1_addPresentment_106 ?_
                  refine nw_iload_n C dX1_addPresentment_109 rfl 3 rfl ?_
                  refine nw_bipush (v := 6) C dX1_addPresentment_110 (by decide) ?_
                  refine nw_iload C dX1_addPresentment_112 0 rfl ?_
                  refine nc_callVV (q0 := 21) (As := [.int p0, .int 6, .int r100]) (rest := []) C h (fun _ _ e => c_Table_put 10 (by decide) e hφ2) tw_823 kv_X9_put (cl_T 10 (by decide)) rfl ⟨Nat.le_of_ble_eq_true rfl, Nat.le_of_ble_eq_true rfl⟩ rfl dX1_addPresentment_114 rfl (Nat.le_of_ble_eq_true rfl) hφ hφ2 (fun r114 σ114 ta h hφ hφ2 => ?_)
                  refine nw_aload_n C dX1_addPresentment_117 rfl 2 rfl ?_
                  refine nw_get (v := .ref (ad 22)) C in_X1 7 cl_Courts rfl 2 (by decide) tw_380 rfl rfl dX1_addPresentment_118 ?_
                  refine nw_iload C dX1_addPresentment_121 0 rfl ?_
                  refine nw_iconst (v := 0) C dX1_addPresentment_123 (by decide) ?_
                  refine nw_iconst (v := 0) C dX1_addPresentment_124 (by decide) ?_
                  refine nc_callVV (q0 := 22) (As := [.int r100, .int 0, .int 0]) (rest := []) C h (fun _ _ e => c_Table_put 11 (by decide) e hφ2) tw_823 kv_X9_put (cl_T 11 (by decide)) rfl ⟨Nat.le_of_ble_eq_true rfl, Nat.le_of_ble_eq_true rfl⟩ rfl dX1_addPresentment_125 rfl (Nat.le_of_ble_eq_true rfl) hφ hφ2 (fun r125 σ125 ta h hφ hφ2 => ?_)
                  refine nw_aload_n C dX1_addPresentment_128 rfl 2 rfl ?_
                  refine nw_get (v := .ref (ad 22)) C in_X1 7 cl_Courts rfl 2 (by decide) tw_380 rfl rfl dX1_addPresentment_129 ?_
                  refine nw_iload C dX1_addPresentment_132 0 rfl ?_
                  refine nw_iconst (v := 1) C dX1_addPresentment_134 (by decide) ?_
                  refine nw_iload C dX1_addPresentment_135 1 rfl ?_
                  refine nc_callVV (q0 := 22) (As := [.int r100, .int 1, .int r46]) (rest := []) C h (fun _ _ e => c_Table_put 11 (by decide) e hφ2) tw_823 kv_X9_put (cl_T 11 (by decide)) rfl ⟨Nat.le_of_ble_eq_true rfl, Nat.le_of_ble_eq_true rfl⟩ rfl dX1_addPresentment_137 rfl (Nat.le_of_ble_eq_true rfl) hφ hφ2 (fun r137 σ137 ta h hφ hφ2 => ?_)
                  refine nw_aload_n C dX1_addPresentment_140 rfl 2 rfl ?_
                  refine nw_get (v := .ref (ad 22)) C in_X1 7 cl_Courts rfl 2 (by decide) tw_380 rfl rfl dX1_addPresentment_141 ?_
                  refine nw_iload C dX1_addPresentment_144 0 rfl ?_
                  refine nw_iconst (v := 2) C dX1_addPresentment_146 (by decide) ?_
                  refine nw_aload_n C dX1_addPresentment_147 rfl 2 rfl ?_
                  refine nw_get (v := .int (σ137.1 62)) C in_X1 7 cl_Courts rfl 11 (by decide) tw_391 rfl rfl dX1_addPresentment_148 ?_
                  refine nc_callVV (q0 := 22) (As := [.int r100, .int 2, .int (σ137.1 62)]) (rest := []) C h (fun _ _ e => c_Table_put 11 (by decide) e hφ2) tw_823 kv_X9_put (cl_T 11 (by decide)) rfl ⟨Nat.le_of_ble_eq_true rfl, Nat.le_of_ble_eq_true rfl⟩ rfl dX1_addPresentment_151 rfl (Nat.le_of_ble_eq_true rfl) hφ hφ2 (fun r151 σ151 ta h hφ hφ2 => ?_)
                  refine nw_aload_n C dX1_addPresentment_154 rfl 2 rfl ?_
                  refine nw_get (v := .ref (ad 22)) C in_X1 7 cl_Courts rfl 2 (by decide) tw_380 rfl rfl dX1_addPresentment_155 ?_
                  refine nw_iload C dX1_addPresentment_158 0 rfl ?_
                  refine nw_bipush (v := 8) C dX1_addPresentment_160 (by decide) ?_
                  refine nw_iload_n C dX1_addPresentment_162 rfl 3 rfl ?_
                  refine nc_callVV (q0 := 22) (As := [.int r100, .int 8, .int p0]) (rest := []) C h (fun _ _ e => c_Table_put 11 (by decide) e hφ2) tw_823 kv_X9_put (cl_T 11 (by decide)) rfl ⟨Nat.le_of_ble_eq_true rfl, Nat.le_of_ble_eq_true rfl⟩ rfl dX1_addPresentment_163 rfl (Nat.le_of_ble_eq_true rfl) hφ hφ2 (fun r163 σ163 ta h hφ hφ2 => ?_)
                  refine nw_aload_n C dX1_addPresentment_166 rfl 2 rfl ?_
                  refine nw_get (v := .ref (ad 22)) C in_X1 7 cl_Courts rfl 2 (by decide) tw_380 rfl rfl dX1_addPresentment_167 ?_
                  refine nw_iload C dX1_addPresentment_170 0 rfl ?_
                  refine nw_bipush (v := 9) C dX1_addPresentment_172 (by decide) ?_
                  refine nw_iload_n C dX1_addPresentment_174 rfl 4 rfl ?_
                  refine nc_callVV (q0 := 22) (As := [.int r100, .int 9, .int p1]) (rest := []) C h (fun _ _ e => c_Table_put 11 (by decide) e hφ2) tw_823 kv_X9_put (cl_T 11 (by decide)) rfl ⟨Nat.le_of_ble_eq_true rfl, Nat.le_of_ble_eq_true rfl⟩ rfl dX1_addPresentment_175 rfl (Nat.le_of_ble_eq_true rfl) hφ hφ2 (fun r175 σ175 ta h hφ hφ2 => ?_)
                  refine nw_aload_n C dX1_addPresentment_178 rfl 2 rfl ?_
                  refine nw_get (v := .ref (ad 22)) C in_X1 7 cl_Courts rfl 2 (by decide) tw_380 rfl rfl dX1_addPresentment_179 ?_
                  refine nw_iload C dX1_addPresentment_182 0 rfl ?_
                  refine nw_bipush (v := 10) C dX1_addPresentment_184 (by decide) ?_
                  refine nw_iload_n C dX1_addPresentment_186 rfl 5 rfl ?_
                  refine nc_callVV (q0 := 22) (As := [.int r100, .int 10, .int p2]) (rest := []) C h (fun _ _ e => c_Table_put 11 (by decide) e hφ2) tw_823 kv_X9_put (cl_T 11 (by decide)) rfl ⟨Nat.le_of_ble_eq_true rfl, Nat.le_of_ble_eq_true rfl⟩ rfl dX1_addPresentment_187 rfl (Nat.le_of_ble_eq_true rfl) hφ hφ2 (fun r187 σ187 ta h hφ hφ2 => ?_)
                  refine nw_aload_n C dX1_addPresentment_190 rfl 2 rfl ?_
                  refine nw_get (v := .ref (ad 22)) C in_X1 7 cl_Courts rfl 2 (by decide) tw_380 rfl rfl dX1_addPresentment_191 ?_
                  refine nw_iload C dX1_addPresentment_194 0 rfl ?_
                  refine nw_bipush (v := 11) C dX1_addPresentment_196 (by decide) ?_
                  refine nw_iload C dX1_addPresentment_198 6 rfl ?_
                  refine nc_callVV (q0 := 22) (As := [.int r100, .int 11, .int p3]) (rest := []) C h (fun _ _ e => c_Table_put 11 (by decide) e hφ2) tw_823 kv_X9_put (cl_T 11 (by decide)) rfl ⟨Nat.le_of_ble_eq_true rfl, Nat.le_of_ble_eq_true rfl⟩ rfl dX1_addPresentment_200 rfl (Nat.le_of_ble_eq_true rfl) hφ hφ2 (fun r200 σ200 ta h hφ hφ2 => ?_)
                  refine nw_aload_n C dX1_addPresentment_203 rfl 2 rfl ?_
                  refine nw_get (v := .ref (ad 22)) C in_X1 7 cl_Courts rfl 2 (by decide) tw_380 rfl rfl dX1_addPresentment_204 ?_
                  refine nw_iload C dX1_addPresentment_207 0 rfl ?_
                  refine nw_bipush (v := 12) C dX1_addPresentment_209 (by decide) ?_
                  refine nw_iconst (v := 0) C dX1_addPresentment_211 (by decide) ?_
                  refine nc_callVV (q0 := 22) (As := [.int r100, .int 12, .int 0]) (rest := []) C h (fun _ _ e => c_Table_put 11 (by decide) e hφ2) tw_823 kv_X9_put (cl_T 11 (by decide)) rfl ⟨Nat.le_of_ble_eq_true rfl, Nat.le_of_ble_eq_true rfl⟩ rfl dX1_addPresentment_212 rfl (Nat.le_of_ble_eq_true rfl) hφ hφ2 (fun r212 σ212 ta h hφ hφ2 => ?_)
                  refine nw_iconst (v := 4) C dX1_addPresentment_215 (by decide) ?_
                  refine nw_istore (lv' := [(7, .int 4), (6, .int r100), (5, .int r46), (0, .ref (ad 7)), (1, .int p0), (2, .int p1), (3, .int p2), (4, .int p3)]) C dX1_addPresentment_216 (by decide) rfl ?_
                  exact nw_lv (lv' := [(0, .ref (ad 7)), (6, .int r100), (7, .int 4)]) [3, 1, 0] rfl (w_Courts_addPresentment_218 C hr r100 FU 4 _ _ hφ hφ2 h)
    · refine nw_bipush (v := (-2)) C dX1_addPresentment_26 (by decide) ?_
      exact nc_iret C hr dX1_addPresentment_28 hφ hφ2 h
  · refine nw_iconst (v := (-1)) C dX1_addPresentment_10 (by decide) ?_
    exact nc_iret C hr dX1_addPresentment_11 hφ hφ2 h
theorem dX1_addProof_0 : decode cX1_addProof 0 = .ok (.aload_n 0, 1) := by decide +kernel
theorem dX1_addProof_1 : decode cX1_addProof 1 = .ok (.getfield 39, 3) := by decide +kernel
theorem dX1_addProof_4 : decode cX1_addProof 4 = .ok (.iload_n 1, 1) := by decide +kernel
theorem dX1_addProof_5 : decode cX1_addProof 5 = .ok (.iconst 0, 1) := by decide +kernel
theorem dX1_addProof_6 : decode cX1_addProof 6 = .ok (.invokevirtual 57, 3) := by decide +kernel
theorem dX1_addProof_9 : decode cX1_addProof 9 = .ok (.istore_n 3, 1) := by decide +kernel
theorem dX1_addProof_10 : decode cX1_addProof 10 = .ok (.iload_n 3, 1) := by decide +kernel
theorem dX1_addProof_11 : decode cX1_addProof 11 = .ok (.ifCond .eq 12, 3) := by decide +kernel
theorem dX1_addProof_14 : decode cX1_addProof 14 = .ok (.iload_n 3, 1) := by decide +kernel
theorem dX1_addProof_15 : decode cX1_addProof 15 = .ok (.iconst 1, 1) := by decide +kernel
theorem dX1_addProof_16 : decode cX1_addProof 16 = .ok (.if_icmp .eq 7, 3) := by decide +kernel
theorem dX1_addProof_19 : decode cX1_addProof 19 = .ok (.sipush (-1000), 3) := by decide +kernel
theorem dX1_addProof_22 : decode cX1_addProof 22 = .ok (.ireturn, 1) := by decide +kernel
theorem dX1_addProof_23 : decode cX1_addProof 23 = .ok (.aload_n 0, 1) := by decide +kernel
theorem dX1_addProof_24 : decode cX1_addProof 24 = .ok (.getfield 39, 3) := by decide +kernel
theorem dX1_addProof_27 : decode cX1_addProof 27 = .ok (.iload_n 1, 1) := by decide +kernel
theorem dX1_addProof_28 : decode cX1_addProof 28 = .ok (.bipush 12, 2) := by decide +kernel
theorem dX1_addProof_30 : decode cX1_addProof 30 = .ok (.iload_n 2, 1) := by decide +kernel
theorem dX1_addProof_31 : decode cX1_addProof 31 = .ok (.invokevirtual 110, 3) := by decide +kernel
theorem dX1_addProof_34 : decode cX1_addProof 34 = .ok (.ireturn, 1) := by decide +kernel
def B_Courts_addProof_23   (x1 : Int32) (x2 : Int32) (σ : CS) : Option (Int32 × CS) := bnd (f_Table_raise 11 x1 12 x2 σ) (fun r31 σ31 => some (r31, σ31))
set_option maxHeartbeats 4000000 in
set_option maxRecDepth 100000 in
theorem w_Courts_addProof_23 (C : Cx g p s m args meth c A 4 cX1_addProof yX1_addProof.cls) (hr : meth.sig.returnType = (some .int))  {res : Int32 × CS}   (x1 : Int32) (x2 : Int32)  (σ : CS) (ta : Nat → Nat) (hφ : φ0 ≤ ph σ.2.2) (hφ2 : ph σ.2.2 ≤ BB) (h : B_Courts_addProof_23 x1 x2 σ = some res) : NI g p l e s m args below meth c A 2 47 4 ad Rr φ0 res ta σ [(0, .ref (ad 7)), (1, .int x1), (2, .int x2)] 23 [] := by
  unfold B_Courts_addProof_23 at h
  refine nw_aload_n C dX1_addProof_23 rfl 0 rfl ?_
  refine nw_get (v := .ref (ad 22)) C in_X1 7 cl_Courts rfl 2 (by decide) tw_380 rfl rfl dX1_addProof_24 ?_
  refine nw_iload_n C dX1_addProof_27 rfl 1 rfl ?_
  refine nw_bipush (v := 12) C dX1_addProof_28 (by decide) ?_
  refine nw_iload_n C dX1_addProof_30 rfl 2 rfl ?_
  refine nc_callVI (q0 := 22) (As := [.int x1, .int 12, .int x2]) (rest := []) C h (fun _ _ e => c_Table_raise 11 (by decide) e hφ2) tw_907 kv_X9_raise (cl_T 11 (by decide)) rfl ⟨Nat.le_of_ble_eq_true rfl, Nat.le_of_ble_eq_true rfl⟩ rfl dX1_addProof_31 rfl (Nat.le_of_ble_eq_true rfl) hφ hφ2 (fun r31 σ31 ta h hφ hφ2 => ?_)
  exact nc_iret C hr dX1_addProof_34 hφ hφ2 h
def f_Courts_addProof (p0 : Int32) (p1 : Int32) (σ : CS) : Option (Int32 × CS) := bnd (f_Table_get 11 p0 0 σ) (fun r6 σ6 => if r6 = 0 then B_Courts_addProof_23 p0 p1 σ6 else if r6 = 1 then B_Courts_addProof_23 p0 p1 σ6 else some ((-1000), σ6))
set_option maxHeartbeats 4000000 in
set_option maxRecDepth 100000 in
theorem c_Courts_addProof {l : Launch} {g : EG} {ad ta : Nat → Nat} {Rr : va_W} {σ σ' : CS} {r : Int32} {p0 : Int32} {p1 : Int32}  (h : f_Courts_addProof p0 p1 σ = some (r, σ')) (hφ2 : ph σ.2.2 ≤ BB) : CtI l g yX1_addProof (.code yX1_addProof cX1_addProof 4 (some .int)) 2 47 ad ta Rr σ [.ref (ad 7), .int p0, .int p1] r σ' := by
  refine Ct.of rfl (by decide) (Nat.le_of_ble_eq_true rfl) ?_
  intro p e s m args below meth c A C hr
  have hφ : ph σ.2.2 ≤ ph σ.2.2 := Nat.le_refl _
  refine nw_zero (ph σ.2.2) ?_
  show NI g p l e s m args below meth c A 2 47 4 ad Rr (ph σ.2.2) (r, σ') ta σ [(0, .ref (ad 7)), (1, .int p0), (2, .int p1)] 0 []
  unfold f_Courts_addProof at h
  refine nw_aload_n C dX1_addProof_0 rfl 0 rfl ?_
  refine nw_get (v := .ref (ad 22)) C in_X1 7 cl_Courts rfl 2 (by decide) tw_380 rfl rfl dX1_addProof_1 ?_
  refine nw_iload_n C dX1_addProof_4 rfl 1 rfl ?_
  refine nw_iconst (v := 0) C dX1_addProof_5 (by decide) ?_
  refine nc_callVI (q0 := 22) (As := [.int p0, .int 0]) (rest := []) C h (fun _ _ e => c_Table_get 11 (by decide) e hφ2) tw_799 kv_X9_get (cl_T 11 (by decide)) rfl ⟨Nat.le_of_ble_eq_true rfl, Nat.le_of_ble_eq_true rfl⟩ rfl dX1_addProof_6 rfl (Nat.le_of_ble_eq_true rfl) hφ hφ2 (fun r6 σ6 ta h hφ hφ2 => ?_)
  refine nw_istore_n (lv' := [(3, .int r6), (0, .ref (ad 7)), (1, .int p0), (2, .int p1)]) C dX1_addProof_9 rfl (by decide) rfl ?_
  refine nw_iload_n C dX1_addProof_10 rfl 0 rfl ?_
  refine nw_if_eq (tgt := 23) C dX1_addProof_11 (by decide) h (fun _ h => ?_) (fun _ h => ?_)
  · exact nw_lv (lv' := [(0, .ref (ad 7)), (1, .int p0), (2, .int p1)]) [1, 2, 3] rfl (w_Courts_addProof_23 C hr p0 p1 _ _ hφ hφ2 h)
  · refine nw_iload_n C dX1_addProof_14 rfl 0 rfl ?_
    refine nw_iconst (v := 1) C dX1_addProof_15 (by decide) ?_
    refine nw_icmp_eq (tgt := 23) C dX1_addProof_16 (by decide) h (fun _ h => ?_) (fun _ h => ?_)
    · exact nw_lv (lv' := [(0, .ref (ad 7)), (1, .int p0), (2, .int p1)]) [1, 2, 3] rfl (w_Courts_addProof_23 C hr p0 p1 _ _ hφ hφ2 h)
    · refine nw_sipush (v := (-1000)) C dX1_addProof_19 (by decide) ?_
      exact nc_iret C hr dX1_addProof_22 hφ hφ2 h
theorem dX3_nextChange_0 : decode cX3_nextChange 0 = .ok (.ldc 90, 2) := by decide +kernel
theorem dX3_nextChange_2 : decode cX3_nextChange 2 = .ok (.istore_n 2, 1) := by decide +kernel
theorem dX3_nextChange_3 : decode cX3_nextChange 3 = .ok (.iconst 0, 1) := by decide +kernel
theorem dX3_nextChange_4 : decode cX3_nextChange 4 = .ok (.istore_n 3, 1) := by decide +kernel
theorem dX3_nextChange_5 : decode cX3_nextChange 5 = .ok (.iload_n 3, 1) := by decide +kernel
theorem dX3_nextChange_6 : decode cX3_nextChange 6 = .ok (.aload_n 0, 1) := by decide +kernel
theorem dX3_nextChange_7 : decode cX3_nextChange 7 = .ok (.getfield 16, 3) := by decide +kernel
theorem dX3_nextChange_10 : decode cX3_nextChange 10 = .ok (.invokevirtual 53, 3) := by decide +kernel
theorem dX3_nextChange_13 : decode cX3_nextChange 13 = .ok (.if_icmp .ge 39, 3) := by decide +kernel
theorem dX3_nextChange_16 : decode cX3_nextChange 16 = .ok (.aload_n 0, 1) := by decide +kernel
theorem dX3_nextChange_17 : decode cX3_nextChange 17 = .ok (.getfield 16, 3) := by decide +kernel
theorem dX3_nextChange_20 : decode cX3_nextChange 20 = .ok (.iload_n 3, 1) := by decide +kernel
theorem dX3_nextChange_21 : decode cX3_nextChange 21 = .ok (.iconst 0, 1) := by decide +kernel
theorem dX3_nextChange_22 : decode cX3_nextChange 22 = .ok (.invokevirtual 86, 3) := by decide +kernel
theorem dX3_nextChange_25 : decode cX3_nextChange 25 = .ok (.istore 4, 2) := by decide +kernel
theorem dX3_nextChange_27 : decode cX3_nextChange 27 = .ok (.iload 4, 2) := by decide +kernel
theorem dX3_nextChange_29 : decode cX3_nextChange 29 = .ok (.iload_n 1, 1) := by decide +kernel
theorem dX3_nextChange_30 : decode cX3_nextChange 30 = .ok (.if_icmp .le 14, 3) := by decide +kernel
theorem dX3_nextChange_33 : decode cX3_nextChange 33 = .ok (.iload 4, 2) := by decide +kernel
theorem dX3_nextChange_35 : decode cX3_nextChange 35 = .ok (.iload_n 2, 1) := by decide +kernel
theorem dX3_nextChange_36 : decode cX3_nextChange 36 = .ok (.if_icmp .ge 8, 3) := by decide +kernel
theorem dX3_nextChange_39 : decode cX3_nextChange 39 = .ok (.iload 4, 2) := by decide +kernel
theorem dX3_nextChange_41 : decode cX3_nextChange 41 = .ok (.goto 4, 3) := by decide +kernel
theorem dX3_nextChange_44 : decode cX3_nextChange 44 = .ok (.iload_n 2, 1) := by decide +kernel
theorem dX3_nextChange_45 : decode cX3_nextChange 45 = .ok (.istore_n 2, 1) := by decide +kernel
theorem dX3_nextChange_46 : decode cX3_nextChange 46 = .ok (.iinc 3 1, 3) := by decide +kernel
theorem dX3_nextChange_49 : decode cX3_nextChange 49 = .ok (.goto (-44), 3) := by decide +kernel
theorem dX3_nextChange_52 : decode cX3_nextChange 52 = .ok (.iload_n 2, 1) := by decide +kernel
theorem dX3_nextChange_53 : decode cX3_nextChange 53 = .ok (.ireturn, 1) := by decide +kernel
def B_Laws_nextChange_44 (k5 : Int32 → Int32 → CS → Option (Int32 × CS)) (x1 : Int32) (x2 : Int32) (x3 : Int32) (σ : CS) : Option (Int32 × CS) := k5 x2 (x3 + 1) σ
set_option maxHeartbeats 4000000 in
set_option maxRecDepth 100000 in
theorem w_Laws_nextChange_44 (C : Cx g p s m args meth c A 5 cX3_nextChange yX3_nextChange.cls) (hr : meth.sig.returnType = (some .int))  {res : Int32 × CS}  (x1 : Int32) (x2 : Int32) (x3 : Int32) {k5 : Int32 → Int32 → CS → Option (Int32 × CS)} (hk5 : ∀ (x2 : Int32) (x3 : Int32) (σ : CS) (ta : Nat → Nat), φ0 ≤ ph σ.2.2 → ph σ.2.2 ≤ BB → k5 x2 x3 σ = some res → NI g p l e s m args below meth c A 1 23 5 ad Rr φ0 res ta σ [(0, .ref (ad 3)), (1, .int x1), (2, .int x2), (3, .int x3)] 5 []) (σ : CS) (ta : Nat → Nat) (hφ : φ0 ≤ ph σ.2.2) (hφ2 : ph σ.2.2 ≤ BB) (h : B_Laws_nextChange_44 k5 x1 x2 x3 σ = some res) : NI g p l e s m args below meth c A 1 23 5 ad Rr φ0 res ta σ [(0, .ref (ad 3)), (1, .int x1), (2, .int x2), (3, .int x3)] 44 [] := by
  unfold B_Laws_nextChange_44 at h
  refine nw_iload_n C dX3_nextChange_44 rfl 2 rfl ?_
  refine nw_istore_n (lv' := [(2, .int x2), (0, .ref (ad 3)), (1, .int x1), (3, .int x3)]) C dX3_nextChange_45 rfl (by decide) rfl ?_
  refine nw_iinc (lv' := [(3, .int (x3 + 1)), (2, .int x2), (0, .ref (ad 3)), (1, .int x1)]) C (x3 + 1) dX3_nextChange_46 3 rfl rfl (by decide) rfl ?_
  refine nw_goto (tgt := 5) C dX3_nextChange_49 (by decide) ?_
  exact nw_lv (lv' := [(0, .ref (ad 3)), (1, .int x1), (2, .int x2), (3, .int (x3 + 1))]) [2, 3, 1, 0] rfl (hk5 x2 (x3 + 1) _ _ hφ hφ2 h)
def L_Laws_nextChange_5  (x1 : Int32) : Nat → Int32 → Int32 → CS → Option (Int32 × CS)
  | 0, _, _, _ => none
  | n + 1, x2, x3, σ => bnd (f_Table_size 3 σ) (fun r10 σ10 => if r10 ≤ x3 then some (x2, σ10) else bnd (f_Table_get 3 x3 0 σ10) (fun r22 σ22 => if r22 ≤ x1 then B_Laws_nextChange_44 (L_Laws_nextChange_5 x1 n) x1 x2 x3 σ22 else if x2 ≤ r22 then B_Laws_nextChange_44 (L_Laws_nextChange_5 x1 n) x1 x2 x3 σ22 else (L_Laws_nextChange_5 x1 n) r22 (x3 + 1) σ22))
set_option maxHeartbeats 4000000 in
set_option maxRecDepth 100000 in
theorem w_Laws_nextChange_5 (C : Cx g p s m args meth c A 5 cX3_nextChange yX3_nextChange.cls) (hr : meth.sig.returnType = (some .int))  {res : Int32 × CS}  (x1 : Int32)  : ∀ (n : Nat) (x2 : Int32) (x3 : Int32) (σ : CS) (ta : Nat → Nat), φ0 ≤ ph σ.2.2 → ph σ.2.2 ≤ BB → L_Laws_nextChange_5 x1 n x2 x3 σ = some res → NI g p l e s m args below meth c A 1 23 5 ad Rr φ0 res ta σ [(0, .ref (ad 3)), (1, .int x1), (2, .int x2), (3, .int x3)] 5 [] := by
  intro n
  induction n with
  | zero =>
    intro x2 x3 σ ta hφ hφ2 h
    exact absurd (show (none : Option (Int32 × CS)) = some res from h) (by intro h9; cases h9)
  | succ n ih =>
    intro x2 x3 σ ta hφ hφ2 h
    rw [L_Laws_nextChange_5] at h
    refine nw_iload_n C dX3_nextChange_5 rfl 3 rfl ?_
    refine nw_aload_n C dX3_nextChange_6 rfl 0 rfl ?_
    refine nw_get (v := .ref (ad 14)) C in_X3 3 cl_Laws rfl 0 (by decide) tw_276 rfl rfl dX3_nextChange_7 ?_
    refine nc_callVI (q0 := 14) (As := []) (rest := [.int x3]) C h (fun _ _ e => c_Table_size 3 (by decide) e hφ2) tw_788 kv_X9_size (cl_T 3 (by decide)) rfl ⟨Nat.le_of_ble_eq_true rfl, Nat.le_of_ble_eq_true rfl⟩ rfl dX3_nextChange_10 rfl (Nat.le_of_ble_eq_true rfl) hφ hφ2 (fun r10 σ10 ta h hφ hφ2 => ?_)
    refine nw_icmp_ge (tgt := 52) C dX3_nextChange_13 (by decide) h (fun _ h => ?_) (fun _ h => ?_)
    · refine nw_iload_n C dX3_nextChange_52 rfl 2 rfl ?_
      exact nc_iret C hr dX3_nextChange_53 hφ hφ2 h
    · refine nw_aload_n C dX3_nextChange_16 rfl 0 rfl ?_
      refine nw_get (v := .ref (ad 14)) C in_X3 3 cl_Laws rfl 0 (by decide) tw_276 rfl rfl dX3_nextChange_17 ?_
      refine nw_iload_n C dX3_nextChange_20 rfl 3 rfl ?_
      refine nw_iconst (v := 0) C dX3_nextChange_21 (by decide) ?_
      refine nc_callVI (q0 := 14) (As := [.int x3, .int 0]) (rest := []) C h (fun _ _ e => c_Table_get 3 (by decide) e hφ2) tw_789 kv_X9_get (cl_T 3 (by decide)) rfl ⟨Nat.le_of_ble_eq_true rfl, Nat.le_of_ble_eq_true rfl⟩ rfl dX3_nextChange_22 rfl (Nat.le_of_ble_eq_true rfl) hφ hφ2 (fun r22 σ22 ta h hφ hφ2 => ?_)
      refine nw_istore (lv' := [(4, .int r22), (0, .ref (ad 3)), (1, .int x1), (2, .int x2), (3, .int x3)]) C dX3_nextChange_25 (by decide) rfl ?_
      refine nw_iload C dX3_nextChange_27 0 rfl ?_
      refine nw_iload_n C dX3_nextChange_29 rfl 2 rfl ?_
      refine nw_icmp_le (tgt := 44) C dX3_nextChange_30 (by decide) h (fun _ h => ?_) (fun _ h => ?_)
      · exact nw_lv (lv' := [(0, .ref (ad 3)), (1, .int x1), (2, .int x2), (3, .int x3)]) [1, 2, 3, 4] rfl (w_Laws_nextChange_44 C hr x1 x2 x3 ih _ _ hφ hφ2 h)
      · refine nw_iload C dX3_nextChange_33 0 rfl ?_
        refine nw_iload_n C dX3_nextChange_35 rfl 3 rfl ?_
        refine nw_icmp_ge (tgt := 44) C dX3_nextChange_36 (by decide) h (fun _ h => ?_) (fun _ h => ?_)
        · exact nw_lv (lv' := [(0, .ref (ad 3)), (1, .int x1), (2, .int x2), (3, .int x3)]) [1, 2, 3, 4] rfl (w_Laws_nextChange_44 C hr x1 x2 x3 ih _ _ hφ hφ2 h)
        · refine nw_iload C dX3_nextChange_39 0 rfl ?_
          refine nw_goto (tgt := 45) C dX3_nextChange_41 (by decide) ?_
          refine nw_istore_n (lv' := [(2, .int r22), (4, .int r22), (0, .ref (ad 3)), (1, .int x1), (3, .int x3)]) C dX3_nextChange_45 rfl (by decide) rfl ?_
          refine nw_iinc (lv' := [(3, .int (x3 + 1)), (2, .int r22), (4, .int r22), (0, .ref (ad 3)), (1, .int x1)]) C (x3 + 1) dX3_nextChange_46 4 rfl rfl (by decide) rfl ?_
          refine nw_goto (tgt := 5) C dX3_nextChange_49 (by decide) ?_
          exact nw_lv (lv' := [(0, .ref (ad 3)), (1, .int x1), (2, .int r22), (3, .int (x3 + 1))]) [3, 4, 1, 0] rfl (ih r22 (x3 + 1) _ _ hφ hφ2 h)
def f_Laws_nextChange (p0 : Int32) (σ : CS) : Option (Int32 × CS) := L_Laws_nextChange_5 p0 FU 100001 0 σ
set_option maxHeartbeats 4000000 in
set_option maxRecDepth 100000 in
theorem c_Laws_nextChange {l : Launch} {g : EG} {ad ta : Nat → Nat} {Rr : va_W} {σ σ' : CS} {r : Int32} {p0 : Int32}  (h : f_Laws_nextChange p0 σ = some (r, σ')) (hφ2 : ph σ.2.2 ≤ BB) : CtI l g yX3_nextChange (.code yX3_nextChange cX3_nextChange 5 (some .int)) 1 23 ad ta Rr σ [.ref (ad 3), .int p0] r σ' := by
  refine Ct.of rfl (by decide) (Nat.le_of_ble_eq_true rfl) ?_
  intro p e s m args below meth c A C hr
  have hφ : ph σ.2.2 ≤ ph σ.2.2 := Nat.le_refl _
  refine nw_zero (ph σ.2.2) ?_
  show NI g p l e s m args below meth c A 1 23 5 ad Rr (ph σ.2.2) (r, σ') ta σ [(0, .ref (ad 3)), (1, .int p0)] 0 []
  unfold f_Laws_nextChange at h
  refine nw_ldc (v := 100001) C tw_794 dX3_nextChange_0 ?_
  refine nw_istore_n (lv' := [(2, .int 100001), (0, .ref (ad 3)), (1, .int p0)]) C dX3_nextChange_2 rfl (by decide) rfl ?_
  refine nw_iconst (v := 0) C dX3_nextChange_3 (by decide) ?_
  refine nw_istore_n (lv' := [(3, .int 0), (2, .int 100001), (0, .ref (ad 3)), (1, .int p0)]) C dX3_nextChange_4 rfl (by decide) rfl ?_
  exact nw_lv (lv' := [(0, .ref (ad 3)), (1, .int p0), (2, .int 100001), (3, .int 0)]) [2, 3, 1, 0] rfl (w_Laws_nextChange_5 C hr p0 FU 100001 0 _ _ hφ hφ2 h)
theorem dX1_readRules_0 : decode cX1_readRules 0 = .ok (.iconst 0, 1) := by decide +kernel
theorem dX1_readRules_1 : decode cX1_readRules 1 = .ok (.istore_n 1, 1) := by decide +kernel
theorem dX1_readRules_2 : decode cX1_readRules 2 = .ok (.iload_n 1, 1) := by decide +kernel
theorem dX1_readRules_3 : decode cX1_readRules 3 = .ok (.aload_n 0, 1) := by decide +kernel
theorem dX1_readRules_4 : decode cX1_readRules 4 = .ok (.getfield 49, 3) := by decide +kernel
theorem dX1_readRules_7 : decode cX1_readRules 7 = .ok (.arraylength, 1) := by decide +kernel
theorem dX1_readRules_8 : decode cX1_readRules 8 = .ok (.if_icmp .ge 27, 3) := by decide +kernel
theorem dX1_readRules_11 : decode cX1_readRules 11 = .ok (.aload_n 0, 1) := by decide +kernel
theorem dX1_readRules_12 : decode cX1_readRules 12 = .ok (.getfield 49, 3) := by decide +kernel
theorem dX1_readRules_15 : decode cX1_readRules 15 = .ok (.iload_n 1, 1) := by decide +kernel
theorem dX1_readRules_16 : decode cX1_readRules 16 = .ok (.aload_n 0, 1) := by decide +kernel
theorem dX1_readRules_17 : decode cX1_readRules 17 = .ok (.getfield 15, 3) := by decide +kernel
theorem dX1_readRules_20 : decode cX1_readRules 20 = .ok (.aload_n 0, 1) := by decide +kernel
theorem dX1_readRules_21 : decode cX1_readRules 21 = .ok (.getfield 106, 3) := by decide +kernel
theorem dX1_readRules_24 : decode cX1_readRules 24 = .ok (.iload_n 1, 1) := by decide +kernel
theorem dX1_readRules_25 : decode cX1_readRules 25 = .ok (.invokevirtual 144, 3) := by decide +kernel
theorem dX1_readRules_28 : decode cX1_readRules 28 = .ok (.iastore, 1) := by decide +kernel
theorem dX1_readRules_29 : decode cX1_readRules 29 = .ok (.iinc 1 1, 3) := by decide +kernel
theorem dX1_readRules_32 : decode cX1_readRules 32 = .ok (.goto (-30), 3) := by decide +kernel
theorem dX1_readRules_35 : decode cX1_readRules 35 = .ok (.aload_n 0, 1) := by decide +kernel
theorem dX1_readRules_36 : decode cX1_readRules 36 = .ok (.aload_n 0, 1) := by decide +kernel
theorem dX1_readRules_37 : decode cX1_readRules 37 = .ok (.getfield 15, 3) := by decide +kernel
theorem dX1_readRules_40 : decode cX1_readRules 40 = .ok (.aload_n 0, 1) := by decide +kernel
theorem dX1_readRules_41 : decode cX1_readRules 41 = .ok (.getfield 106, 3) := by decide +kernel
theorem dX1_readRules_44 : decode cX1_readRules 44 = .ok (.invokevirtual 147, 3) := by decide +kernel
theorem dX1_readRules_47 : decode cX1_readRules 47 = .ok (.putfield 113, 3) := by decide +kernel
theorem dX1_readRules_50 : decode cX1_readRules 50 = .ok (.aload_n 0, 1) := by decide +kernel
theorem dX1_readRules_51 : decode cX1_readRules 51 = .ok (.aload_n 0, 1) := by decide +kernel
theorem dX1_readRules_52 : decode cX1_readRules 52 = .ok (.getfield 15, 3) := by decide +kernel
theorem dX1_readRules_55 : decode cX1_readRules 55 = .ok (.getfield 116, 3) := by decide +kernel
theorem dX1_readRules_58 : decode cX1_readRules 58 = .ok (.invokevirtual 119, 3) := by decide +kernel
theorem dX1_readRules_61 : decode cX1_readRules 61 = .ok (.putfield 122, 3) := by decide +kernel
theorem dX1_readRules_64 : decode cX1_readRules 64 = .ok (.return_, 1) := by decide +kernel
def L_Courts_readRules_2 (k35 : CS → Option (Int32 × CS))  : Nat → Int32 → CS → Option (Int32 × CS)
  | 0, _, _ => none
  | n + 1, x1, σ => if 3 ≤ x1 then k35 σ else bnd (f_Laws_ruleOn (σ.1 62) x1 σ) (fun r25 σ25 => gix x1 3 ((L_Courts_readRules_2 k35 n) (x1 + 1) (wr σ25 22 x1 r25)))
set_option maxHeartbeats 4000000 in
set_option maxRecDepth 100000 in
theorem w_Courts_readRules_2 (C : Cx g p s m args meth c A 2 cX1_readRules yX1_readRules.cls) (hr : meth.sig.returnType = none)  {res : Int32 × CS}   {k35 : CS → Option (Int32 × CS)} (hk35 : ∀  (σ : CS) (ta : Nat → Nat), φ0 ≤ ph σ.2.2 → ph σ.2.2 ≤ BB → k35  σ = some res → NV g p l e s m args below meth c A 3 72 2 ad Rr φ0 res ta σ [(0, .ref (ad 7))] 35 []) : ∀ (n : Nat) (x1 : Int32) (σ : CS) (ta : Nat → Nat), φ0 ≤ ph σ.2.2 → ph σ.2.2 ≤ BB → L_Courts_readRules_2 k35 n x1 σ = some res → NV g p l e s m args below meth c A 3 72 2 ad Rr φ0 res ta σ [(0, .ref (ad 7)), (1, .int x1)] 2 [] := by
  intro n
  induction n with
  | zero =>
    intro x1 σ ta hφ hφ2 h
    exact absurd (show (none : Option (Int32 × CS)) = some res from h) (by intro h9; cases h9)
  | succ n ih =>
    intro x1 σ ta hφ hφ2 h
    rw [L_Courts_readRules_2] at h
    refine nw_iload_n C dX1_readRules_2 rfl 1 rfl ?_
    refine nw_aload_n C dX1_readRules_3 rfl 0 rfl ?_
    refine nw_get (v := .ref (ad 49)) C in_X1 7 cl_Courts rfl 8 (by decide) tw_387 rfl rfl dX1_readRules_4 ?_
    refine nw_alenI C 49 (cl_I 22 rfl) dX1_readRules_7 ?_
    refine nw_st (st' := [.int 3, .int x1]) rfl ?_
    refine nw_icmp_ge (tgt := 35) C dX1_readRules_8 (by decide) h (fun _ h => ?_) (fun _ h => ?_)
    · exact nw_lv (lv' := [(0, .ref (ad 7))]) [0] rfl (hk35  _ _ hφ hφ2 h)
    · refine nw_aload_n C dX1_readRules_11 rfl 0 rfl ?_
      refine nw_get (v := .ref (ad 49)) C in_X1 7 cl_Courts rfl 8 (by decide) tw_387 rfl rfl dX1_readRules_12 ?_
      refine nw_iload_n C dX1_readRules_15 rfl 1 rfl ?_
      refine nw_aload_n C dX1_readRules_16 rfl 0 rfl ?_
      refine nw_get (v := .ref (ad 3)) C in_X1 7 cl_Courts rfl 4 (by decide) tw_383 rfl rfl dX1_readRules_17 ?_
      refine nw_aload_n C dX1_readRules_20 rfl 0 rfl ?_
      refine nw_get (v := .int (σ.1 62)) C in_X1 7 cl_Courts rfl 11 (by decide) tw_391 rfl rfl dX1_readRules_21 ?_
      refine nw_iload_n C dX1_readRules_24 rfl 1 rfl ?_
      refine nc_callVI (q0 := 3) (As := [.int (σ.1 62), .int x1]) (rest := [.int x1, .ref (ad 49)]) C h (fun _ _ e => c_Laws_ruleOn e hφ2) tw_778 kv_X3_ruleOn cl_Laws rfl ⟨Nat.le_of_ble_eq_true rfl, Nat.le_of_ble_eq_true rfl⟩ rfl dX1_readRules_25 rfl (Nat.le_of_ble_eq_true rfl) hφ hφ2 (fun r25 σ25 ta h hφ hφ2 => ?_)
      refine nw_iast C 49 (cl_I 22 rfl) dX1_readRules_28 h (cs_I 22 rfl) (fun h => ?_)
      refine nw_iinc (lv' := [(1, .int (x1 + 1)), (0, .ref (ad 7))]) C (x1 + 1) dX1_readRules_29 1 rfl rfl (by decide) rfl ?_
      refine nw_goto (tgt := 2) C dX1_readRules_32 (by decide) ?_
      exact nw_lv (lv' := [(0, .ref (ad 7)), (1, .int (x1 + 1))]) [1, 0] rfl (ih (x1 + 1) _ _ hφ hφ2 h)
def B_Courts_readRules_35    (σ : CS) : Option (Int32 × CS) := bnd (f_Laws_nextChange (σ.1 62) σ) (fun r44 σ44 => bnd (f_Table_size 3 (sF σ44 60 r44)) (fun r58 σ58 => some (0, (sF σ58 61 r58))))
set_option maxHeartbeats 4000000 in
set_option maxRecDepth 100000 in
theorem w_Courts_readRules_35 (C : Cx g p s m args meth c A 2 cX1_readRules yX1_readRules.cls) (hr : meth.sig.returnType = none)  {res : Int32 × CS}     (σ : CS) (ta : Nat → Nat) (hφ : φ0 ≤ ph σ.2.2) (hφ2 : ph σ.2.2 ≤ BB) (h : B_Courts_readRules_35 σ = some res) : NV g p l e s m args below meth c A 3 72 2 ad Rr φ0 res ta σ [(0, .ref (ad 7))] 35 [] := by
  unfold B_Courts_readRules_35 at h
  refine nw_aload_n C dX1_readRules_35 rfl 0 rfl ?_
  refine nw_aload_n C dX1_readRules_36 rfl 0 rfl ?_
  refine nw_get (v := .ref (ad 3)) C in_X1 7 cl_Courts rfl 4 (by decide) tw_383 rfl rfl dX1_readRules_37 ?_
  refine nw_aload_n C dX1_readRules_40 rfl 0 rfl ?_
  refine nw_get (v := .int (σ.1 62)) C in_X1 7 cl_Courts rfl 11 (by decide) tw_391 rfl rfl dX1_readRules_41 ?_
  refine nc_callVI (q0 := 3) (As := [.int (σ.1 62)]) (rest := [.ref (ad 7)]) C h (fun _ _ e => c_Laws_nextChange e hφ2) tw_790 kv_X3_nextChange cl_Laws rfl ⟨Nat.le_of_ble_eq_true rfl, Nat.le_of_ble_eq_true rfl⟩ rfl dX1_readRules_44 rfl (Nat.le_of_ble_eq_true rfl) hφ hφ2 (fun r44 σ44 ta h hφ hφ2 => ?_)
  refine nw_put (ty := .int) C in_X1 7 cl_Courts rfl 9 (by decide) tyX1 tyX1_ok nmX1 tw_388 rfl rfl (by decide +kernel) rfl rfl (Nat.le_of_ble_eq_true rfl) dX1_readRules_47 cs_Courts_changeDay ?_
  refine nw_aload_n C dX1_readRules_50 rfl 0 rfl ?_
  refine nw_aload_n C dX1_readRules_51 rfl 0 rfl ?_
  refine nw_get (v := .ref (ad 3)) C in_X1 7 cl_Courts rfl 4 (by decide) tw_383 rfl rfl dX1_readRules_52 ?_
  refine nw_get (v := .ref (ad 14)) C in_X3 3 cl_Laws rfl 0 (by decide) tw_277 rfl rfl dX1_readRules_55 ?_
  refine nc_callVI (q0 := 14) (As := []) (rest := [.ref (ad 7)]) C h (fun _ _ e => c_Table_size 3 (by decide) e hφ2) tw_773 kv_X9_size (cl_T 3 (by decide)) rfl ⟨Nat.le_of_ble_eq_true rfl, Nat.le_of_ble_eq_true rfl⟩ rfl dX1_readRules_58 rfl (Nat.le_of_ble_eq_true rfl) hφ hφ2 (fun r58 σ58 ta h hφ hφ2 => ?_)
  refine nw_put (ty := .int) C in_X1 7 cl_Courts rfl 10 (by decide) tyX1 tyX1_ok nmX1 tw_389 rfl rfl (by decide +kernel) rfl rfl (Nat.le_of_ble_eq_true rfl) dX1_readRules_61 cs_Courts_textsThen ?_
  exact nc_vret C hr dX1_readRules_64 hφ hφ2 h
def f_Courts_readRules  (σ : CS) : Option (Int32 × CS) := L_Courts_readRules_2 (B_Courts_readRules_35) FU 0 σ
set_option maxHeartbeats 4000000 in
set_option maxRecDepth 100000 in
theorem c_Courts_readRules {l : Launch} {g : EG} {ad ta : Nat → Nat} {Rr : va_W} {σ σ' : CS} {r : Int32}   (h : f_Courts_readRules σ = some (r, σ')) (hφ2 : ph σ.2.2 ≤ BB) : CtV l g yX1_readRules (.code yX1_readRules cX1_readRules 2 none) 3 72 ad ta Rr σ [.ref (ad 7)] r σ' := by
  refine Ct.of rfl (by decide) (Nat.le_of_ble_eq_true rfl) ?_
  intro p e s m args below meth c A C hr
  have hφ : ph σ.2.2 ≤ ph σ.2.2 := Nat.le_refl _
  refine nw_zero (ph σ.2.2) ?_
  show NV g p l e s m args below meth c A 3 72 2 ad Rr (ph σ.2.2) (r, σ') ta σ [(0, .ref (ad 7))] 0 []
  unfold f_Courts_readRules at h
  refine nw_iconst (v := 0) C dX1_readRules_0 (by decide) ?_
  refine nw_istore_n (lv' := [(1, .int 0), (0, .ref (ad 7))]) C dX1_readRules_1 rfl (by decide) rfl ?_
  exact nw_lv (lv' := [(0, .ref (ad 7)), (1, .int 0)]) [1, 0] rfl (w_Courts_readRules_2 C hr (fun σ_ ta_ hφ_ hφ2_ h_ => w_Courts_readRules_35 C hr σ_ ta_ hφ_ hφ2_ h_) FU 0 _ _ hφ hφ2 h)
theorem dX1_comesUp_0 : decode cX1_comesUp 0 = .ok (.aload_n 0, 1) := by decide +kernel
theorem dX1_comesUp_1 : decode cX1_comesUp 1 = .ok (.getfield 39, 3) := by decide +kernel
theorem dX1_comesUp_4 : decode cX1_comesUp 4 = .ok (.iload_n 1, 1) := by decide +kernel
theorem dX1_comesUp_5 : decode cX1_comesUp 5 = .ok (.iconst 0, 1) := by decide +kernel
theorem dX1_comesUp_6 : decode cX1_comesUp 6 = .ok (.invokevirtual 57, 3) := by decide +kernel
theorem dX1_comesUp_9 : decode cX1_comesUp 9 = .ok (.istore_n 3, 1) := by decide +kernel
theorem dX1_comesUp_10 : decode cX1_comesUp 10 = .ok (.iload_n 3, 1) := by decide +kernel
theorem dX1_comesUp_11 : decode cX1_comesUp 11 = .ok (.iload_n 2, 1) := by decide +kernel
theorem dX1_comesUp_12 : decode cX1_comesUp 12 = .ok (.if_icmp .eq 13, 3) := by decide +kernel
theorem dX1_comesUp_15 : decode cX1_comesUp 15 = .ok (.iload_n 3, 1) := by decide +kernel
theorem dX1_comesUp_16 : decode cX1_comesUp 16 = .ok (.iconst 4, 1) := by decide +kernel
theorem dX1_comesUp_17 : decode cX1_comesUp 17 = .ok (.if_icmp .ne 12, 3) := by decide +kernel
theorem dX1_comesUp_20 : decode cX1_comesUp 20 = .ok (.iload_n 2, 1) := by decide +kernel
theorem dX1_comesUp_21 : decode cX1_comesUp 21 = .ok (.iconst 2, 1) := by decide +kernel
theorem dX1_comesUp_22 : decode cX1_comesUp 22 = .ok (.if_icmp .ne 7, 3) := by decide +kernel
theorem dX1_comesUp_25 : decode cX1_comesUp 25 = .ok (.iconst 1, 1) := by decide +kernel
theorem dX1_comesUp_26 : decode cX1_comesUp 26 = .ok (.goto 4, 3) := by decide +kernel
theorem dX1_comesUp_29 : decode cX1_comesUp 29 = .ok (.iconst 0, 1) := by decide +kernel
theorem dX1_comesUp_30 : decode cX1_comesUp 30 = .ok (.istore 4, 2) := by decide +kernel
theorem dX1_comesUp_32 : decode cX1_comesUp 32 = .ok (.iload 4, 2) := by decide +kernel
theorem dX1_comesUp_34 : decode cX1_comesUp 34 = .ok (.ifCond .eq 23, 3) := by decide +kernel
theorem dX1_comesUp_37 : decode cX1_comesUp 37 = .ok (.aload_n 0, 1) := by decide +kernel
theorem dX1_comesUp_38 : decode cX1_comesUp 38 = .ok (.getfield 39, 3) := by decide +kernel
theorem dX1_comesUp_41 : decode cX1_comesUp 41 = .ok (.iload_n 1, 1) := by decide +kernel
theorem dX1_comesUp_42 : decode cX1_comesUp 42 = .ok (.iconst 2, 1) := by decide +kernel
theorem dX1_comesUp_43 : decode cX1_comesUp 43 = .ok (.invokevirtual 57, 3) := by decide +kernel
theorem dX1_comesUp_46 : decode cX1_comesUp 46 = .ok (.aload_n 0, 1) := by decide +kernel
theorem dX1_comesUp_47 : decode cX1_comesUp 47 = .ok (.getfield 106, 3) := by decide +kernel
theorem dX1_comesUp_50 : decode cX1_comesUp 50 = .ok (.if_icmp .ge 7, 3) := by decide +kernel
theorem dX1_comesUp_53 : decode cX1_comesUp 53 = .ok (.iconst 1, 1) := by decide +kernel
theorem dX1_comesUp_54 : decode cX1_comesUp 54 = .ok (.goto 4, 3) := by decide +kernel
theorem dX1_comesUp_57 : decode cX1_comesUp 57 = .ok (.iconst 0, 1) := by decide +kernel
theorem dX1_comesUp_58 : decode cX1_comesUp 58 = .ok (.ireturn, 1) := by decide +kernel
def B_Courts_comesUp_30   (x1 : Int32) (z0 : Int32) (σ : CS) : Option (Int32 × CS) := if z0 = 0 then some (0, σ) else bnd (f_Table_get 11 x1 2 σ) (fun r43 σ43 => if (σ43.1 62) ≤ r43 then some (0, σ43) else some (1, σ43))
set_option maxHeartbeats 4000000 in
set_option maxRecDepth 100000 in
theorem w_Courts_comesUp_30 (C : Cx g p s m args meth c A 5 cX1_comesUp yX1_comesUp.cls) (hr : meth.sig.returnType = (some .boolean))  {res : Int32 × CS}   (x1 : Int32) (z0 : Int32)  (σ : CS) (ta : Nat → Nat) (hφ : φ0 ≤ ph σ.2.2) (hφ2 : ph σ.2.2 ≤ BB) (h : B_Courts_comesUp_30 x1 z0 σ = some res) : NI g p l e s m args below meth c A 1 23 5 ad Rr φ0 res ta σ [(0, .ref (ad 7)), (1, .int x1)] 30 [.int z0] := by
  unfold B_Courts_comesUp_30 at h
  refine nw_istore (lv' := [(4, .int z0), (0, .ref (ad 7)), (1, .int x1)]) C dX1_comesUp_30 (by decide) rfl ?_
  refine nw_iload C dX1_comesUp_32 0 rfl ?_
  refine nw_if_eq (tgt := 57) C dX1_comesUp_34 (by decide) h (fun _ h => ?_) (fun _ h => ?_)
  · refine nw_iconst (v := 0) C dX1_comesUp_57 (by decide) ?_
    exact nc_zret C hr (Or.inl rfl) dX1_comesUp_58 hφ hφ2 h
  · refine nw_aload_n C dX1_comesUp_37 rfl 1 rfl ?_
    refine nw_get (v := .ref (ad 22)) C in_X1 7 cl_Courts rfl 2 (by decide) tw_380 rfl rfl dX1_comesUp_38 ?_
    refine nw_iload_n C dX1_comesUp_41 rfl 2 rfl ?_
    refine nw_iconst (v := 2) C dX1_comesUp_42 (by decide) ?_
    refine nc_callVI (q0 := 22) (As := [.int x1, .int 2]) (rest := []) C h (fun _ _ e => c_Table_get 11 (by decide) e hφ2) tw_799 kv_X9_get (cl_T 11 (by decide)) rfl ⟨Nat.le_of_ble_eq_true rfl, Nat.le_of_ble_eq_true rfl⟩ rfl dX1_comesUp_43 rfl (Nat.le_of_ble_eq_true rfl) hφ hφ2 (fun r43 σ43 ta h hφ hφ2 => ?_)
    refine nw_aload_n C dX1_comesUp_46 rfl 1 rfl ?_
    refine nw_get (v := .int (σ43.1 62)) C in_X1 7 cl_Courts rfl 11 (by decide) tw_391 rfl rfl dX1_comesUp_47 ?_
    refine nw_icmp_ge (tgt := 57) C dX1_comesUp_50 (by decide) h (fun _ h => ?_) (fun _ h => ?_)
    · refine nw_iconst (v := 0) C dX1_comesUp_57 (by decide) ?_
      exact nc_zret C hr (Or.inl rfl) dX1_comesUp_58 hφ hφ2 h
    · refine nw_iconst (v := 1) C dX1_comesUp_53 (by decide) ?_
      refine nw_goto (tgt := 58) C dX1_comesUp_54 (by decide) ?_
      exact nc_zret C hr (Or.inr rfl) dX1_comesUp_58 hφ hφ2 h
def B_Courts_comesUp_29   (x1 : Int32) (σ : CS) : Option (Int32 × CS) := B_Courts_comesUp_30 x1 0 σ
set_option maxHeartbeats 4000000 in
set_option maxRecDepth 100000 in
theorem w_Courts_comesUp_29 (C : Cx g p s m args meth c A 5 cX1_comesUp yX1_comesUp.cls) (hr : meth.sig.returnType = (some .boolean))  {res : Int32 × CS}   (x1 : Int32)  (σ : CS) (ta : Nat → Nat) (hφ : φ0 ≤ ph σ.2.2) (hφ2 : ph σ.2.2 ≤ BB) (h : B_Courts_comesUp_29 x1 σ = some res) : NI g p l e s m args below meth c A 1 23 5 ad Rr φ0 res ta σ [(0, .ref (ad 7)), (1, .int x1)] 29 [] := by
  unfold B_Courts_comesUp_29 at h
  refine nw_iconst (v := 0) C dX1_comesUp_29 (by decide) ?_
  exact nw_lv (lv' := [(0, .ref (ad 7)), (1, .int x1)]) [0, 1] rfl (w_Courts_comesUp_30 C hr x1 0 _ _ hφ hφ2 h)
def f_Courts_comesUp (p0 : Int32) (p1 : Int32) (σ : CS) : Option (Int32 × CS) := bnd (f_Table_get 11 p0 0 σ) (fun r6 σ6 => if r6 = p1 then B_Courts_comesUp_30 p0 1 σ6 else if r6 = 4 then if p1 = 2 then B_Courts_comesUp_30 p0 1 σ6 else B_Courts_comesUp_29 p0 σ6 else B_Courts_comesUp_29 p0 σ6)
set_option maxHeartbeats 4000000 in
set_option maxRecDepth 100000 in
theorem c_Courts_comesUp {l : Launch} {g : EG} {ad ta : Nat → Nat} {Rr : va_W} {σ σ' : CS} {r : Int32} {p0 : Int32} {p1 : Int32}  (h : f_Courts_comesUp p0 p1 σ = some (r, σ')) (hφ2 : ph σ.2.2 ≤ BB) : CtI l g yX1_comesUp (.code yX1_comesUp cX1_comesUp 5 (some .boolean)) 1 23 ad ta Rr σ [.ref (ad 7), .int p0, .int p1] r σ' := by
  refine Ct.of rfl (by decide) (Nat.le_of_ble_eq_true rfl) ?_
  intro p e s m args below meth c A C hr
  have hφ : ph σ.2.2 ≤ ph σ.2.2 := Nat.le_refl _
  refine nw_zero (ph σ.2.2) ?_
  show NI g p l e s m args below meth c A 1 23 5 ad Rr (ph σ.2.2) (r, σ') ta σ [(0, .ref (ad 7)), (1, .int p0), (2, .int p1)] 0 []
  unfold f_Courts_comesUp at h
  refine nw_aload_n C dX1_comesUp_0 rfl 0 rfl ?_
  refine nw_get (v := .ref (ad 22)) C in_X1 7 cl_Courts rfl 2 (by decide) tw_380 rfl rfl dX1_comesUp_1 ?_
  refine nw_iload_n C dX1_comesUp_4 rfl 1 rfl ?_
  refine nw_iconst (v := 0) C dX1_comesUp_5 (by decide) ?_
  refine nc_callVI (q0 := 22) (As := [.int p0, .int 0]) (rest := []) C h (fun _ _ e => c_Table_get 11 (by decide) e hφ2) tw_799 kv_X9_get (cl_T 11 (by decide)) rfl ⟨Nat.le_of_ble_eq_true rfl, Nat.le_of_ble_eq_true rfl⟩ rfl dX1_comesUp_6 rfl (Nat.le_of_ble_eq_true rfl) hφ hφ2 (fun r6 σ6 ta h hφ hφ2 => ?_)
  refine nw_istore_n (lv' := [(3, .int r6), (0, .ref (ad 7)), (1, .int p0), (2, .int p1)]) C dX1_comesUp_9 rfl (by decide) rfl ?_
  refine nw_iload_n C dX1_comesUp_10 rfl 0 rfl ?_
  refine nw_iload_n C dX1_comesUp_11 rfl 3 rfl ?_
  refine nw_icmp_eq (tgt := 25) C dX1_comesUp_12 (by decide) h (fun _ h => ?_) (fun _ h => ?_)
  · refine nw_iconst (v := 1) C dX1_comesUp_25 (by decide) ?_
    refine nw_goto (tgt := 30) C dX1_comesUp_26 (by decide) ?_
    exact nw_lv (lv' := [(0, .ref (ad 7)), (1, .int p0)]) [1, 2] rfl (w_Courts_comesUp_30 C hr p0 1 _ _ hφ hφ2 h)
  · refine nw_iload_n C dX1_comesUp_15 rfl 0 rfl ?_
    refine nw_iconst (v := 4) C dX1_comesUp_16 (by decide) ?_
    refine nw_icmp_ne (tgt := 29) C dX1_comesUp_17 (by decide) h (fun _ h => ?_) (fun _ h => ?_)
    · refine nw_iload_n C dX1_comesUp_20 rfl 3 rfl ?_
      refine nw_iconst (v := 2) C dX1_comesUp_21 (by decide) ?_
      refine nw_icmp_ne (tgt := 29) C dX1_comesUp_22 (by decide) h (fun _ h => ?_) (fun _ h => ?_)
      · refine nw_iconst (v := 1) C dX1_comesUp_25 (by decide) ?_
        refine nw_goto (tgt := 30) C dX1_comesUp_26 (by decide) ?_
        exact nw_lv (lv' := [(0, .ref (ad 7)), (1, .int p0)]) [1, 2] rfl (w_Courts_comesUp_30 C hr p0 1 _ _ hφ hφ2 h)
      · exact nw_lv (lv' := [(0, .ref (ad 7)), (1, .int p0)]) [1, 2] rfl (w_Courts_comesUp_29 C hr p0 _ _ hφ hφ2 h)
    · exact nw_lv (lv' := [(0, .ref (ad 7)), (1, .int p0)]) [1, 2] rfl (w_Courts_comesUp_29 C hr p0 _ _ hφ hφ2 h)
theorem dX1_settle_0 : decode cX1_settle 0 = .ok (.aload_n 0, 1) := by decide +kernel
theorem dX1_settle_1 : decode cX1_settle 1 = .ok (.getfield 39, 3) := by decide +kernel
theorem dX1_settle_4 : decode cX1_settle 4 = .ok (.iload_n 1, 1) := by decide +kernel
theorem dX1_settle_5 : decode cX1_settle 5 = .ok (.iconst 0, 1) := by decide +kernel
theorem dX1_settle_6 : decode cX1_settle 6 = .ok (.invokevirtual 57, 3) := by decide +kernel
theorem dX1_settle_9 : decode cX1_settle 9 = .ok (.iload_n 2, 1) := by decide +kernel
theorem dX1_settle_10 : decode cX1_settle 10 = .ok (.if_icmp .eq 26, 3) := by decide +kernel
theorem dX1_settle_13 : decode cX1_settle 13 = .ok (.aload_n 0, 1) := by decide +kernel
theorem dX1_settle_14 : decode cX1_settle 14 = .ok (.getfield 39, 3) := by decide +kernel
theorem dX1_settle_17 : decode cX1_settle 17 = .ok (.iload_n 1, 1) := by decide +kernel
theorem dX1_settle_18 : decode cX1_settle 18 = .ok (.iconst 0, 1) := by decide +kernel
theorem dX1_settle_19 : decode cX1_settle 19 = .ok (.iload_n 2, 1) := by decide +kernel
theorem dX1_settle_20 : decode cX1_settle 20 = .ok (.invokevirtual 53, 3) := by decide +kernel
theorem dX1_settle_23 : decode cX1_settle 23 = .ok (.aload_n 0, 1) := by decide +kernel
theorem dX1_settle_24 : decode cX1_settle 24 = .ok (.getfield 39, 3) := by decide +kernel
theorem dX1_settle_27 : decode cX1_settle 27 = .ok (.iload_n 1, 1) := by decide +kernel
theorem dX1_settle_28 : decode cX1_settle 28 = .ok (.iconst 2, 1) := by decide +kernel
theorem dX1_settle_29 : decode cX1_settle 29 = .ok (.aload_n 0, 1) := by decide +kernel
theorem dX1_settle_30 : decode cX1_settle 30 = .ok (.getfield 106, 3) := by decide +kernel
theorem dX1_settle_33 : decode cX1_settle 33 = .ok (.invokevirtual 53, 3) := by decide +kernel
theorem dX1_settle_36 : decode cX1_settle 36 = .ok (.return_, 1) := by decide +kernel
def f_Courts_settle (p0 : Int32) (p1 : Int32) (σ : CS) : Option (Int32 × CS) := bnd (f_Table_get 11 p0 0 σ) (fun r6 σ6 => if r6 = p1 then some (0, σ6) else bnd (f_Table_put 11 p0 0 p1 σ6) (fun _ σ20 => bnd (f_Table_put 11 p0 2 (σ20.1 62) σ20) (fun _ σ33 => some (0, σ33))))
set_option maxHeartbeats 4000000 in
set_option maxRecDepth 100000 in
theorem c_Courts_settle {l : Launch} {g : EG} {ad ta : Nat → Nat} {Rr : va_W} {σ σ' : CS} {r : Int32} {p0 : Int32} {p1 : Int32}  (h : f_Courts_settle p0 p1 σ = some (r, σ')) (hφ2 : ph σ.2.2 ≤ BB) : CtV l g yX1_settle (.code yX1_settle cX1_settle 3 none) 1 24 ad ta Rr σ [.ref (ad 7), .int p0, .int p1] r σ' := by
  refine Ct.of rfl (by decide) (Nat.le_of_ble_eq_true rfl) ?_
  intro p e s m args below meth c A C hr
  have hφ : ph σ.2.2 ≤ ph σ.2.2 := Nat.le_refl _
  refine nw_zero (ph σ.2.2) ?_
  show NV g p l e s m args below meth c A 1 24 3 ad Rr (ph σ.2.2) (r, σ') ta σ [(0, .ref (ad 7)), (1, .int p0), (2, .int p1)] 0 []
  unfold f_Courts_settle at h
  refine nw_aload_n C dX1_settle_0 rfl 0 rfl ?_
  refine nw_get (v := .ref (ad 22)) C in_X1 7 cl_Courts rfl 2 (by decide) tw_380 rfl rfl dX1_settle_1 ?_
  refine nw_iload_n C dX1_settle_4 rfl 1 rfl ?_
  refine nw_iconst (v := 0) C dX1_settle_5 (by decide) ?_
  refine nc_callVI (q0 := 22) (As := [.int p0, .int 0]) (rest := []) C h (fun _ _ e => c_Table_get 11 (by decide) e hφ2) tw_799 kv_X9_get (cl_T 11 (by decide)) rfl ⟨Nat.le_of_ble_eq_true rfl, Nat.le_of_ble_eq_true rfl⟩ rfl dX1_settle_6 rfl (Nat.le_of_ble_eq_true rfl) hφ hφ2 (fun r6 σ6 ta h hφ hφ2 => ?_)
  refine nw_iload_n C dX1_settle_9 rfl 2 rfl ?_
  refine nw_icmp_eq (tgt := 36) C dX1_settle_10 (by decide) h (fun _ h => ?_) (fun _ h => ?_)
  · exact nc_vret C hr dX1_settle_36 hφ hφ2 h
  · refine nw_aload_n C dX1_settle_13 rfl 0 rfl ?_
    refine nw_get (v := .ref (ad 22)) C in_X1 7 cl_Courts rfl 2 (by decide) tw_380 rfl rfl dX1_settle_14 ?_
    refine nw_iload_n C dX1_settle_17 rfl 1 rfl ?_
    refine nw_iconst (v := 0) C dX1_settle_18 (by decide) ?_
    refine nw_iload_n C dX1_settle_19 rfl 2 rfl ?_
    refine nc_callVV (q0 := 22) (As := [.int p0, .int 0, .int p1]) (rest := []) C h (fun _ _ e => c_Table_put 11 (by decide) e hφ2) tw_823 kv_X9_put (cl_T 11 (by decide)) rfl ⟨Nat.le_of_ble_eq_true rfl, Nat.le_of_ble_eq_true rfl⟩ rfl dX1_settle_20 rfl (Nat.le_of_ble_eq_true rfl) hφ hφ2 (fun r20 σ20 ta h hφ hφ2 => ?_)
    refine nw_aload_n C dX1_settle_23 rfl 0 rfl ?_
    refine nw_get (v := .ref (ad 22)) C in_X1 7 cl_Courts rfl 2 (by decide) tw_380 rfl rfl dX1_settle_24 ?_
    refine nw_iload_n C dX1_settle_27 rfl 1 rfl ?_
    refine nw_iconst (v := 2) C dX1_settle_28 (by decide) ?_
    refine nw_aload_n C dX1_settle_29 rfl 0 rfl ?_
    refine nw_get (v := .int (σ20.1 62)) C in_X1 7 cl_Courts rfl 11 (by decide) tw_391 rfl rfl dX1_settle_30 ?_
    refine nc_callVV (q0 := 22) (As := [.int p0, .int 2, .int (σ20.1 62)]) (rest := []) C h (fun _ _ e => c_Table_put 11 (by decide) e hφ2) tw_823 kv_X9_put (cl_T 11 (by decide)) rfl ⟨Nat.le_of_ble_eq_true rfl, Nat.le_of_ble_eq_true rfl⟩ rfl dX1_settle_33 rfl (Nat.le_of_ble_eq_true rfl) hφ hφ2 (fun r33 σ33 ta h hφ hφ2 => ?_)
    exact nc_vret C hr dX1_settle_36 hφ hφ2 h
theorem dX1_findAccused_0 : decode cX1_findAccused 0 = .ok (.aload_n 0, 1) := by decide +kernel
theorem dX1_findAccused_1 : decode cX1_findAccused 1 = .ok (.getfield 39, 3) := by decide +kernel
theorem dX1_findAccused_4 : decode cX1_findAccused 4 = .ok (.iload_n 1, 1) := by decide +kernel
theorem dX1_findAccused_5 : decode cX1_findAccused 5 = .ok (.iconst 1, 1) := by decide +kernel
theorem dX1_findAccused_6 : decode cX1_findAccused 6 = .ok (.invokevirtual 57, 3) := by decide +kernel
theorem dX1_findAccused_9 : decode cX1_findAccused 9 = .ok (.istore_n 2, 1) := by decide +kernel
theorem dX1_findAccused_10 : decode cX1_findAccused 10 = .ok (.aload_n 0, 1) := by decide +kernel
theorem dX1_findAccused_11 : decode cX1_findAccused 11 = .ok (.getfield 19, 3) := by decide +kernel
theorem dX1_findAccused_14 : decode cX1_findAccused 14 = .ok (.iload_n 2, 1) := by decide +kernel
theorem dX1_findAccused_15 : decode cX1_findAccused 15 = .ok (.invokevirtual 103, 3) := by decide +kernel
theorem dX1_findAccused_18 : decode cX1_findAccused 18 = .ok (.ifCond .eq 5, 3) := by decide +kernel
theorem dX1_findAccused_21 : decode cX1_findAccused 21 = .ok (.iconst 1, 1) := by decide +kernel
theorem dX1_findAccused_22 : decode cX1_findAccused 22 = .ok (.ireturn, 1) := by decide +kernel
theorem dX1_findAccused_23 : decode cX1_findAccused 23 = .ok (.aload_n 0, 1) := by decide +kernel
theorem dX1_findAccused_24 : decode cX1_findAccused 24 = .ok (.getfield 15, 3) := by decide +kernel
theorem dX1_findAccused_27 : decode cX1_findAccused 27 = .ok (.aload_n 0, 1) := by decide +kernel
theorem dX1_findAccused_28 : decode cX1_findAccused 28 = .ok (.getfield 106, 3) := by decide +kernel
theorem dX1_findAccused_31 : decode cX1_findAccused 31 = .ok (.iconst 4, 1) := by decide +kernel
theorem dX1_findAccused_32 : decode cX1_findAccused 32 = .ok (.invokevirtual 144, 3) := by decide +kernel
theorem dX1_findAccused_35 : decode cX1_findAccused 35 = .ok (.iconst 1, 1) := by decide +kernel
theorem dX1_findAccused_36 : decode cX1_findAccused 36 = .ok (.if_icmp .ne 7, 3) := by decide +kernel
theorem dX1_findAccused_39 : decode cX1_findAccused 39 = .ok (.iconst 1, 1) := by decide +kernel
theorem dX1_findAccused_40 : decode cX1_findAccused 40 = .ok (.goto 4, 3) := by decide +kernel
theorem dX1_findAccused_43 : decode cX1_findAccused 43 = .ok (.iconst 0, 1) := by decide +kernel
theorem dX1_findAccused_44 : decode cX1_findAccused 44 = .ok (.istore_n 3, 1) := by decide +kernel
theorem dX1_findAccused_45 : decode cX1_findAccused 45 = .ok (.iload_n 3, 1) := by decide +kernel
theorem dX1_findAccused_46 : decode cX1_findAccused 46 = .ok (.ifCond .eq 14, 3) := by decide +kernel
theorem dX1_findAccused_49 : decode cX1_findAccused 49 = .ok (.aload_n 0, 1) := by decide +kernel
theorem dX1_findAccused_50 : decode cX1_findAccused 50 = .ok (.getfield 19, 3) := by decide +kernel
theorem dX1_findAccused_53 : decode cX1_findAccused 53 = .ok (.iload_n 2, 1) := by decide +kernel
theorem dX1_findAccused_54 : decode cX1_findAccused 54 = .ok (.invokevirtual 153, 3) := by decide +kernel
theorem dX1_findAccused_57 : decode cX1_findAccused 57 = .ok (.goto 4, 3) := by decide +kernel
theorem dX1_findAccused_60 : decode cX1_findAccused 60 = .ok (.iconst (-1), 1) := by decide +kernel
theorem dX1_findAccused_61 : decode cX1_findAccused 61 = .ok (.istore 4, 2) := by decide +kernel
theorem dX1_findAccused_63 : decode cX1_findAccused 63 = .ok (.iload 4, 2) := by decide +kernel
theorem dX1_findAccused_65 : decode cX1_findAccused 65 = .ok (.iconst (-1), 1) := by decide +kernel
theorem dX1_findAccused_66 : decode cX1_findAccused 66 = .ok (.if_icmp .ne 22, 3) := by decide +kernel
theorem dX1_findAccused_69 : decode cX1_findAccused 69 = .ok (.aload_n 0, 1) := by decide +kernel
theorem dX1_findAccused_70 : decode cX1_findAccused 70 = .ok (.iload_n 1, 1) := by decide +kernel
theorem dX1_findAccused_71 : decode cX1_findAccused 71 = .ok (.bipush 6, 2) := by decide +kernel
theorem dX1_findAccused_73 : decode cX1_findAccused 73 = .ok (.invokevirtual 150, 3) := by decide +kernel
theorem dX1_findAccused_76 : decode cX1_findAccused 76 = .ok (.aload_n 0, 1) := by decide +kernel
theorem dX1_findAccused_77 : decode cX1_findAccused 77 = .ok (.getfield 39, 3) := by decide +kernel
theorem dX1_findAccused_80 : decode cX1_findAccused 80 = .ok (.iload_n 1, 1) := by decide +kernel
theorem dX1_findAccused_81 : decode cX1_findAccused 81 = .ok (.iconst 3, 1) := by decide +kernel
theorem dX1_findAccused_82 : decode cX1_findAccused 82 = .ok (.iconst (-1), 1) := by decide +kernel
theorem dX1_findAccused_83 : decode cX1_findAccused 83 = .ok (.invokevirtual 53, 3) := by decide +kernel
theorem dX1_findAccused_86 : decode cX1_findAccused 86 = .ok (.iconst 0, 1) := by decide +kernel
theorem dX1_findAccused_87 : decode cX1_findAccused 87 = .ok (.ireturn, 1) := by decide +kernel
theorem dX1_findAccused_88 : decode cX1_findAccused 88 = .ok (.aload_n 0, 1) := by decide +kernel
theorem dX1_findAccused_89 : decode cX1_findAccused 89 = .ok (.getfield 39, 3) := by decide +kernel
theorem dX1_findAccused_92 : decode cX1_findAccused 92 = .ok (.iload_n 1, 1) := by decide +kernel
theorem dX1_findAccused_93 : decode cX1_findAccused 93 = .ok (.iconst 1, 1) := by decide +kernel
theorem dX1_findAccused_94 : decode cX1_findAccused 94 = .ok (.iload 4, 2) := by decide +kernel
theorem dX1_findAccused_96 : decode cX1_findAccused 96 = .ok (.invokevirtual 53, 3) := by decide +kernel
theorem dX1_findAccused_99 : decode cX1_findAccused 99 = .ok (.iconst 1, 1) := by decide +kernel
theorem dX1_findAccused_100 : decode cX1_findAccused 100 = .ok (.ireturn, 1) := by decide +kernel
def B_Courts_findAccused_61   (x1 : Int32) (z0 : Int32) (σ : CS) : Option (Int32 × CS) := if z0 = (-1) then bnd (f_Courts_settle x1 6 σ) (fun _ σ73 => bnd (f_Table_put 11 x1 3 (-1) σ73) (fun _ σ83 => some (0, σ83))) else bnd (f_Table_put 11 x1 1 z0 σ) (fun _ σ96 => some (1, σ96))
set_option maxHeartbeats 4000000 in
set_option maxRecDepth 100000 in
theorem w_Courts_findAccused_61 (C : Cx g p s m args meth c A 5 cX1_findAccused yX1_findAccused.cls) (hr : meth.sig.returnType = (some .boolean))  {res : Int32 × CS}   (x1 : Int32) (z0 : Int32)  (σ : CS) (ta : Nat → Nat) (hφ : φ0 ≤ ph σ.2.2) (hφ2 : ph σ.2.2 ≤ BB) (h : B_Courts_findAccused_61 x1 z0 σ = some res) : NI g p l e s m args below meth c A 3 72 5 ad Rr φ0 res ta σ [(0, .ref (ad 7)), (1, .int x1)] 61 [.int z0] := by
  unfold B_Courts_findAccused_61 at h
  refine nw_istore (lv' := [(4, .int z0), (0, .ref (ad 7)), (1, .int x1)]) C dX1_findAccused_61 (by decide) rfl ?_
  refine nw_iload C dX1_findAccused_63 0 rfl ?_
  refine nw_iconst (v := (-1)) C dX1_findAccused_65 (by decide) ?_
  refine nw_icmp_ne (tgt := 88) C dX1_findAccused_66 (by decide) h (fun _ h => ?_) (fun _ h => ?_)
  · refine nw_aload_n C dX1_findAccused_69 rfl 1 rfl ?_
    refine nw_iload_n C dX1_findAccused_70 rfl 2 rfl ?_
    refine nw_bipush (v := 6) C dX1_findAccused_71 (by decide) ?_
    refine nc_callVV (q0 := 7) (As := [.int x1, .int 6]) (rest := []) C h (fun _ _ e => c_Courts_settle e hφ2) tw_819 kv_X1_settle cl_Courts rfl ⟨Nat.le_of_ble_eq_true rfl, Nat.le_of_ble_eq_true rfl⟩ rfl dX1_findAccused_73 rfl (Nat.le_of_ble_eq_true rfl) hφ hφ2 (fun r73 σ73 ta h hφ hφ2 => ?_)
    refine nw_aload_n C dX1_findAccused_76 rfl 1 rfl ?_
    refine nw_get (v := .ref (ad 22)) C in_X1 7 cl_Courts rfl 2 (by decide) tw_380 rfl rfl dX1_findAccused_77 ?_
    refine nw_iload_n C dX1_findAccused_80 rfl 2 rfl ?_
    refine nw_iconst (v := 3) C dX1_findAccused_81 (by decide) ?_
    refine nw_iconst (v := (-1)) C dX1_findAccused_82 (by decide) ?_
    refine nc_callVV (q0 := 22) (As := [.int x1, .int 3, .int (-1)]) (rest := []) C h (fun _ _ e => c_Table_put 11 (by decide) e hφ2) tw_823 kv_X9_put (cl_T 11 (by decide)) rfl ⟨Nat.le_of_ble_eq_true rfl, Nat.le_of_ble_eq_true rfl⟩ rfl dX1_findAccused_83 rfl (Nat.le_of_ble_eq_true rfl) hφ hφ2 (fun r83 σ83 ta h hφ hφ2 => ?_)
    refine nw_iconst (v := 0) C dX1_findAccused_86 (by decide) ?_
    exact nc_zret C hr (Or.inl rfl) dX1_findAccused_87 hφ hφ2 h
  · refine nw_aload_n C dX1_findAccused_88 rfl 1 rfl ?_
    refine nw_get (v := .ref (ad 22)) C in_X1 7 cl_Courts rfl 2 (by decide) tw_380 rfl rfl dX1_findAccused_89 ?_
    refine nw_iload_n C dX1_findAccused_92 rfl 2 rfl ?_
    refine nw_iconst (v := 1) C dX1_findAccused_93 (by decide) ?_
    refine nw_iload C dX1_findAccused_94 0 rfl ?_
    refine nc_callVV (q0 := 22) (As := [.int x1, .int 1, .int z0]) (rest := []) C h (fun _ _ e => c_Table_put 11 (by decide) e hφ2) tw_823 kv_X9_put (cl_T 11 (by decide)) rfl ⟨Nat.le_of_ble_eq_true rfl, Nat.le_of_ble_eq_true rfl⟩ rfl dX1_findAccused_96 rfl (Nat.le_of_ble_eq_true rfl) hφ hφ2 (fun r96 σ96 ta h hφ hφ2 => ?_)
    refine nw_iconst (v := 1) C dX1_findAccused_99 (by decide) ?_
    exact nc_zret C hr (Or.inr rfl) dX1_findAccused_100 hφ hφ2 h
def B_Courts_findAccused_44   (x1 : Int32) (x2 : Int32) (z0 : Int32) (σ : CS) : Option (Int32 × CS) := if z0 = 0 then B_Courts_findAccused_61 x1 (-1) σ else bnd (f_People_heirOf x2 σ) (fun r54 σ54 => B_Courts_findAccused_61 x1 r54 σ54)
set_option maxHeartbeats 4000000 in
set_option maxRecDepth 100000 in
theorem w_Courts_findAccused_44 (C : Cx g p s m args meth c A 5 cX1_findAccused yX1_findAccused.cls) (hr : meth.sig.returnType = (some .boolean))  {res : Int32 × CS}   (x1 : Int32) (x2 : Int32) (z0 : Int32)  (σ : CS) (ta : Nat → Nat) (hφ : φ0 ≤ ph σ.2.2) (hφ2 : ph σ.2.2 ≤ BB) (h : B_Courts_findAccused_44 x1 x2 z0 σ = some res) : NI g p l e s m args below meth c A 3 72 5 ad Rr φ0 res ta σ [(0, .ref (ad 7)), (1, .int x1), (2, .int x2)] 44 [.int z0] := by
  unfold B_Courts_findAccused_44 at h
  refine nw_istore_n (lv' := [(3, .int z0), (0, .ref (ad 7)), (1, .int x1), (2, .int x2)]) C dX1_findAccused_44 rfl (by decide) rfl ?_
  refine nw_iload_n C dX1_findAccused_45 rfl 0 rfl ?_
  refine nw_if_eq (tgt := 60) C dX1_findAccused_46 (by decide) h (fun _ h => ?_) (fun _ h => ?_)
  · refine nw_iconst (v := (-1)) C dX1_findAccused_60 (by decide) ?_
    exact nw_lv (lv' := [(0, .ref (ad 7)), (1, .int x1)]) [1, 2] rfl (w_Courts_findAccused_61 C hr x1 (-1) _ _ hφ hφ2 h)
  · refine nw_aload_n C dX1_findAccused_49 rfl 1 rfl ?_
    refine nw_get (v := .ref (ad 5)) C in_X1 7 cl_Courts rfl 5 (by decide) tw_384 rfl rfl dX1_findAccused_50 ?_
    refine nw_iload_n C dX1_findAccused_53 rfl 3 rfl ?_
    refine nc_callVI (q0 := 5) (As := [.int x2]) (rest := []) C h (fun _ _ e => c_People_heirOf e hφ2) tw_813 kv_X5_heirOf cl_People rfl ⟨Nat.le_of_ble_eq_true rfl, Nat.le_of_ble_eq_true rfl⟩ rfl dX1_findAccused_54 rfl (Nat.le_of_ble_eq_true rfl) hφ hφ2 (fun r54 σ54 ta h hφ hφ2 => ?_)
    refine nw_goto (tgt := 61) C dX1_findAccused_57 (by decide) ?_
    exact nw_lv (lv' := [(0, .ref (ad 7)), (1, .int x1)]) [1, 2] rfl (w_Courts_findAccused_61 C hr x1 r54 _ _ hφ hφ2 h)
def f_Courts_findAccused (p0 : Int32) (σ : CS) : Option (Int32 × CS) := bnd (f_Table_get 11 p0 1 σ) (fun r6 σ6 => bnd (f_People_lives r6 σ6) (fun r15 σ15 => if r15 = 0 then bnd (f_Laws_ruleOn (σ15.1 62) 4 σ15) (fun r32 σ32 => if r32 = 1 then B_Courts_findAccused_44 p0 r6 1 σ32 else B_Courts_findAccused_44 p0 r6 0 σ32) else some (1, σ15)))
set_option maxHeartbeats 4000000 in
set_option maxRecDepth 100000 in
theorem c_Courts_findAccused {l : Launch} {g : EG} {ad ta : Nat → Nat} {Rr : va_W} {σ σ' : CS} {r : Int32} {p0 : Int32}  (h : f_Courts_findAccused p0 σ = some (r, σ')) (hφ2 : ph σ.2.2 ≤ BB) : CtI l g yX1_findAccused (.code yX1_findAccused cX1_findAccused 5 (some .boolean)) 3 72 ad ta Rr σ [.ref (ad 7), .int p0] r σ' := by
  refine Ct.of rfl (by decide) (Nat.le_of_ble_eq_true rfl) ?_
  intro p e s m args below meth c A C hr
  have hφ : ph σ.2.2 ≤ ph σ.2.2 := Nat.le_refl _
  refine nw_zero (ph σ.2.2) ?_
  show NI g p l e s m args below meth c A 3 72 5 ad Rr (ph σ.2.2) (r, σ') ta σ [(0, .ref (ad 7)), (1, .int p0)] 0 []
  unfold f_Courts_findAccused at h
  refine nw_aload_n C dX1_findAccused_0 rfl 0 rfl ?_
  refine nw_get (v := .ref (ad 22)) C in_X1 7 cl_Courts rfl 2 (by decide) tw_380 rfl rfl dX1_findAccused_1 ?_
  refine nw_iload_n C dX1_findAccused_4 rfl 1 rfl ?_
  refine nw_iconst (v := 1) C dX1_findAccused_5 (by decide) ?_
  refine nc_callVI (q0 := 22) (As := [.int p0, .int 1]) (rest := []) C h (fun _ _ e => c_Table_get 11 (by decide) e hφ2) tw_799 kv_X9_get (cl_T 11 (by decide)) rfl ⟨Nat.le_of_ble_eq_true rfl, Nat.le_of_ble_eq_true rfl⟩ rfl dX1_findAccused_6 rfl (Nat.le_of_ble_eq_true rfl) hφ hφ2 (fun r6 σ6 ta h hφ hφ2 => ?_)
  refine nw_istore_n (lv' := [(2, .int r6), (0, .ref (ad 7)), (1, .int p0)]) C dX1_findAccused_9 rfl (by decide) rfl ?_
  refine nw_aload_n C dX1_findAccused_10 rfl 1 rfl ?_
  refine nw_get (v := .ref (ad 5)) C in_X1 7 cl_Courts rfl 5 (by decide) tw_384 rfl rfl dX1_findAccused_11 ?_
  refine nw_iload_n C dX1_findAccused_14 rfl 0 rfl ?_
  refine nc_callVI (q0 := 5) (As := [.int r6]) (rest := []) C h (fun _ _ e => c_People_lives e hφ2) tw_804 kv_X5_lives cl_People rfl ⟨Nat.le_of_ble_eq_true rfl, Nat.le_of_ble_eq_true rfl⟩ rfl dX1_findAccused_15 rfl (Nat.le_of_ble_eq_true rfl) hφ hφ2 (fun r15 σ15 ta h hφ hφ2 => ?_)
  refine nw_if_eq (tgt := 23) C dX1_findAccused_18 (by decide) h (fun _ h => ?_) (fun _ h => ?_)
  · refine nw_aload_n C dX1_findAccused_23 rfl 1 rfl ?_
    refine nw_get (v := .ref (ad 3)) C in_X1 7 cl_Courts rfl 4 (by decide) tw_383 rfl rfl dX1_findAccused_24 ?_
    refine nw_aload_n C dX1_findAccused_27 rfl 1 rfl ?_
    refine nw_get (v := .int (σ15.1 62)) C in_X1 7 cl_Courts rfl 11 (by decide) tw_391 rfl rfl dX1_findAccused_28 ?_
    refine nw_iconst (v := 4) C dX1_findAccused_31 (by decide) ?_
    refine nc_callVI (q0 := 3) (As := [.int (σ15.1 62), .int 4]) (rest := []) C h (fun _ _ e => c_Laws_ruleOn e hφ2) tw_778 kv_X3_ruleOn cl_Laws rfl ⟨Nat.le_of_ble_eq_true rfl, Nat.le_of_ble_eq_true rfl⟩ rfl dX1_findAccused_32 rfl (Nat.le_of_ble_eq_true rfl) hφ hφ2 (fun r32 σ32 ta h hφ hφ2 => ?_)
    refine nw_iconst (v := 1) C dX1_findAccused_35 (by decide) ?_
    refine nw_icmp_ne (tgt := 43) C dX1_findAccused_36 (by decide) h (fun _ h => ?_) (fun _ h => ?_)
    · refine nw_iconst (v := 1) C dX1_findAccused_39 (by decide) ?_
      refine nw_goto (tgt := 44) C dX1_findAccused_40 (by decide) ?_
      exact nw_lv (lv' := [(0, .ref (ad 7)), (1, .int p0), (2, .int r6)]) [1, 2, 0] rfl (w_Courts_findAccused_44 C hr p0 r6 1 _ _ hφ hφ2 h)
    · refine nw_iconst (v := 0) C dX1_findAccused_43 (by decide) ?_
      exact nw_lv (lv' := [(0, .ref (ad 7)), (1, .int p0), (2, .int r6)]) [1, 2, 0] rfl (w_Courts_findAccused_44 C hr p0 r6 0 _ _ hφ hφ2 h)
  · refine nw_iconst (v := 1) C dX1_findAccused_21 (by decide) ?_
    exact nc_zret C hr (Or.inr rfl) dX1_findAccused_22 hφ hφ2 h
theorem dX1_attach_0 : decode cX1_attach 0 = .ok (.aload_n 0, 1) := by decide +kernel
theorem dX1_attach_1 : decode cX1_attach 1 = .ok (.getfield 32, 3) := by decide +kernel
theorem dX1_attach_4 : decode cX1_attach 4 = .ok (.aload_n 0, 1) := by decide +kernel
theorem dX1_attach_5 : decode cX1_attach 5 = .ok (.getfield 39, 3) := by decide +kernel
theorem dX1_attach_8 : decode cX1_attach 8 = .ok (.iload_n 1, 1) := by decide +kernel
theorem dX1_attach_9 : decode cX1_attach 9 = .ok (.bipush 9, 2) := by decide +kernel
theorem dX1_attach_11 : decode cX1_attach 11 = .ok (.invokevirtual 57, 3) := by decide +kernel
theorem dX1_attach_14 : decode cX1_attach 14 = .ok (.iconst 1, 1) := by decide +kernel
theorem dX1_attach_15 : decode cX1_attach 15 = .ok (.invokevirtual 57, 3) := by decide +kernel
theorem dX1_attach_18 : decode cX1_attach 18 = .ok (.istore_n 2, 1) := by decide +kernel
theorem dX1_attach_19 : decode cX1_attach 19 = .ok (.aload_n 0, 1) := by decide +kernel
theorem dX1_attach_20 : decode cX1_attach 20 = .ok (.iload_n 1, 1) := by decide +kernel
theorem dX1_attach_21 : decode cX1_attach 21 = .ok (.iload_n 2, 1) := by decide +kernel
theorem dX1_attach_22 : decode cX1_attach 22 = .ok (.aload_n 0, 1) := by decide +kernel
theorem dX1_attach_23 : decode cX1_attach 23 = .ok (.getfield 39, 3) := by decide +kernel
theorem dX1_attach_26 : decode cX1_attach 26 = .ok (.iload_n 1, 1) := by decide +kernel
theorem dX1_attach_27 : decode cX1_attach 27 = .ok (.bipush 12, 2) := by decide +kernel
theorem dX1_attach_29 : decode cX1_attach 29 = .ok (.invokevirtual 57, 3) := by decide +kernel
theorem dX1_attach_32 : decode cX1_attach 32 = .ok (.iadd, 1) := by decide +kernel
theorem dX1_attach_33 : decode cX1_attach 33 = .ok (.ifCond .gt 7, 3) := by decide +kernel
theorem dX1_attach_36 : decode cX1_attach 36 = .ok (.iconst 5, 1) := by decide +kernel
theorem dX1_attach_37 : decode cX1_attach 37 = .ok (.goto 4, 3) := by decide +kernel
theorem dX1_attach_40 : decode cX1_attach 40 = .ok (.iconst 1, 1) := by decide +kernel
theorem dX1_attach_41 : decode cX1_attach 41 = .ok (.invokevirtual 150, 3) := by decide +kernel
theorem dX1_attach_44 : decode cX1_attach 44 = .ok (.return_, 1) := by decide +kernel
def B_Courts_attach_41   (z1 : Int32) (z2 : Int32) (σ : CS) : Option (Int32 × CS) := bnd (f_Courts_settle z1 z2 σ) (fun _ σ41 => some (0, σ41))
set_option maxHeartbeats 4000000 in
set_option maxRecDepth 100000 in
theorem w_Courts_attach_41 (C : Cx g p s m args meth c A 3 cX1_attach yX1_attach.cls) (hr : meth.sig.returnType = none)  {res : Int32 × CS}   (z1 : Int32) (z2 : Int32)  (σ : CS) (ta : Nat → Nat) (hφ : φ0 ≤ ph σ.2.2) (hφ2 : ph σ.2.2 ≤ BB) (h : B_Courts_attach_41 z1 z2 σ = some res) : NV g p l e s m args below meth c A 2 46 3 ad Rr φ0 res ta σ [] 41 [.int z2, .int z1, .ref (ad 7)] := by
  unfold B_Courts_attach_41 at h
  refine nc_callVV (q0 := 7) (As := [.int z1, .int z2]) (rest := []) C h (fun _ _ e => c_Courts_settle e hφ2) tw_819 kv_X1_settle cl_Courts rfl ⟨Nat.le_of_ble_eq_true rfl, Nat.le_of_ble_eq_true rfl⟩ rfl dX1_attach_41 rfl (Nat.le_of_ble_eq_true rfl) hφ hφ2 (fun r41 σ41 ta h hφ hφ2 => ?_)
  exact nc_vret C hr dX1_attach_44 hφ hφ2 h
def f_Courts_attach (p0 : Int32) (σ : CS) : Option (Int32 × CS) := bnd (f_Table_get 11 p0 9 σ) (fun r11 σ11 => bnd (f_Table_get 9 r11 1 σ11) (fun r15 σ15 => bnd (f_Table_get 11 p0 12 σ15) (fun r29 σ29 => if 0 < (r15 + r29) then B_Courts_attach_41 p0 1 σ29 else B_Courts_attach_41 p0 5 σ29)))
set_option maxHeartbeats 4000000 in
set_option maxRecDepth 100000 in
theorem c_Courts_attach {l : Launch} {g : EG} {ad ta : Nat → Nat} {Rr : va_W} {σ σ' : CS} {r : Int32} {p0 : Int32}  (h : f_Courts_attach p0 σ = some (r, σ')) (hφ2 : ph σ.2.2 ≤ BB) : CtV l g yX1_attach (.code yX1_attach cX1_attach 3 none) 2 46 ad ta Rr σ [.ref (ad 7), .int p0] r σ' := by
  refine Ct.of rfl (by decide) (Nat.le_of_ble_eq_true rfl) ?_
  intro p e s m args below meth c A C hr
  have hφ : ph σ.2.2 ≤ ph σ.2.2 := Nat.le_refl _
  refine nw_zero (ph σ.2.2) ?_
  show NV g p l e s m args below meth c A 2 46 3 ad Rr (ph σ.2.2) (r, σ') ta σ [(0, .ref (ad 7)), (1, .int p0)] 0 []
  unfold f_Courts_attach at h
  refine nw_aload_n C dX1_attach_0 rfl 0 rfl ?_
  refine nw_get (v := .ref (ad 20)) C in_X1 7 cl_Courts rfl 0 (by decide) tw_376 rfl rfl dX1_attach_1 ?_
  refine nw_aload_n C dX1_attach_4 rfl 0 rfl ?_
  refine nw_get (v := .ref (ad 22)) C in_X1 7 cl_Courts rfl 2 (by decide) tw_380 rfl rfl dX1_attach_5 ?_
  refine nw_iload_n C dX1_attach_8 rfl 1 rfl ?_
  refine nw_bipush (v := 9) C dX1_attach_9 (by decide) ?_
  refine nc_callVI (q0 := 22) (As := [.int p0, .int 9]) (rest := [.ref (ad 20)]) C h (fun _ _ e => c_Table_get 11 (by decide) e hφ2) tw_799 kv_X9_get (cl_T 11 (by decide)) rfl ⟨Nat.le_of_ble_eq_true rfl, Nat.le_of_ble_eq_true rfl⟩ rfl dX1_attach_11 rfl (Nat.le_of_ble_eq_true rfl) hφ hφ2 (fun r11 σ11 ta h hφ hφ2 => ?_)
  refine nw_iconst (v := 1) C dX1_attach_14 (by decide) ?_
  refine nc_callVI (q0 := 20) (As := [.int r11, .int 1]) (rest := []) C h (fun _ _ e => c_Table_get 9 (by decide) e hφ2) tw_799 kv_X9_get (cl_T 9 (by decide)) rfl ⟨Nat.le_of_ble_eq_true rfl, Nat.le_of_ble_eq_true rfl⟩ rfl dX1_attach_15 rfl (Nat.le_of_ble_eq_true rfl) hφ hφ2 (fun r15 σ15 ta h hφ hφ2 => ?_)
  refine nw_istore_n (lv' := [(2, .int r15), (0, .ref (ad 7)), (1, .int p0)]) C dX1_attach_18 rfl (by decide) rfl ?_
  refine nw_aload_n C dX1_attach_19 rfl 1 rfl ?_
  refine nw_iload_n C dX1_attach_20 rfl 2 rfl ?_
  refine nw_iload_n C dX1_attach_21 rfl 0 rfl ?_
  refine nw_aload_n C dX1_attach_22 rfl 1 rfl ?_
  refine nw_get (v := .ref (ad 22)) C in_X1 7 cl_Courts rfl 2 (by decide) tw_380 rfl rfl dX1_attach_23 ?_
  refine nw_iload_n C dX1_attach_26 rfl 2 rfl ?_
  refine nw_bipush (v := 12) C dX1_attach_27 (by decide) ?_
  refine nc_callVI (q0 := 22) (As := [.int p0, .int 12]) (rest := [.int r15, .int p0, .ref (ad 7)]) C h (fun _ _ e => c_Table_get 11 (by decide) e hφ2) tw_799 kv_X9_get (cl_T 11 (by decide)) rfl ⟨Nat.le_of_ble_eq_true rfl, Nat.le_of_ble_eq_true rfl⟩ rfl dX1_attach_29 rfl (Nat.le_of_ble_eq_true rfl) hφ hφ2 (fun r29 σ29 ta h hφ hφ2 => ?_)
  refine nw_iadd C dX1_attach_32 ?_
  refine nw_if_gt (tgt := 40) C dX1_attach_33 (by decide) h (fun _ h => ?_) (fun _ h => ?_)
  · refine nw_iconst (v := 1) C dX1_attach_40 (by decide) ?_
    exact nw_lv (lv' := []) [] rfl (w_Courts_attach_41 C hr p0 1 _ _ hφ hφ2 h)
  · refine nw_iconst (v := 5) C dX1_attach_36 (by decide) ?_
    refine nw_goto (tgt := 41) C dX1_attach_37 (by decide) ?_
    exact nw_lv (lv' := []) [] rfl (w_Courts_attach_41 C hr p0 5 _ _ hφ hφ2 h)
theorem dX1_find_0 : decode cX1_find 0 = .ok (.aload_n 0, 1) := by decide +kernel
theorem dX1_find_1 : decode cX1_find 1 = .ok (.getfield 39, 3) := by decide +kernel
theorem dX1_find_4 : decode cX1_find 4 = .ok (.iload_n 1, 1) := by decide +kernel
theorem dX1_find_5 : decode cX1_find 5 = .ok (.bipush 8, 2) := by decide +kernel
theorem dX1_find_7 : decode cX1_find 7 = .ok (.invokevirtual 57, 3) := by decide +kernel
theorem dX1_find_10 : decode cX1_find 10 = .ok (.istore_n 2, 1) := by decide +kernel
theorem dX1_find_11 : decode cX1_find 11 = .ok (.aload_n 0, 1) := by decide +kernel
theorem dX1_find_12 : decode cX1_find 12 = .ok (.getfield 9, 3) := by decide +kernel
theorem dX1_find_15 : decode cX1_find 15 = .ok (.aload_n 0, 1) := by decide +kernel
theorem dX1_find_16 : decode cX1_find 16 = .ok (.getfield 36, 3) := by decide +kernel
theorem dX1_find_19 : decode cX1_find 19 = .ok (.iload_n 2, 1) := by decide +kernel
theorem dX1_find_20 : decode cX1_find 20 = .ok (.iconst 4, 1) := by decide +kernel
theorem dX1_find_21 : decode cX1_find 21 = .ok (.invokevirtual 57, 3) := by decide +kernel
theorem dX1_find_24 : decode cX1_find 24 = .ok (.aload_n 0, 1) := by decide +kernel
theorem dX1_find_25 : decode cX1_find 25 = .ok (.getfield 36, 3) := by decide +kernel
theorem dX1_find_28 : decode cX1_find 28 = .ok (.iload_n 2, 1) := by decide +kernel
theorem dX1_find_29 : decode cX1_find 29 = .ok (.iconst 2, 1) := by decide +kernel
theorem dX1_find_30 : decode cX1_find 30 = .ok (.invokevirtual 57, 3) := by decide +kernel
theorem dX1_find_33 : decode cX1_find 33 = .ok (.aload_n 0, 1) := by decide +kernel
theorem dX1_find_34 : decode cX1_find 34 = .ok (.getfield 36, 3) := by decide +kernel
theorem dX1_find_37 : decode cX1_find 37 = .ok (.iload_n 2, 1) := by decide +kernel
theorem dX1_find_38 : decode cX1_find 38 = .ok (.iconst 3, 1) := by decide +kernel
theorem dX1_find_39 : decode cX1_find 39 = .ok (.invokevirtual 57, 3) := by decide +kernel
theorem dX1_find_42 : decode cX1_find 42 = .ok (.invokevirtual 61, 3) := by decide +kernel
theorem dX1_find_45 : decode cX1_find 45 = .ok (.istore_n 3, 1) := by decide +kernel
theorem dX1_find_46 : decode cX1_find 46 = .ok (.aload_n 0, 1) := by decide +kernel
theorem dX1_find_47 : decode cX1_find 47 = .ok (.iload_n 1, 1) := by decide +kernel
theorem dX1_find_48 : decode cX1_find 48 = .ok (.iload_n 3, 1) := by decide +kernel
theorem dX1_find_49 : decode cX1_find 49 = .ok (.iconst 2, 1) := by decide +kernel
theorem dX1_find_50 : decode cX1_find 50 = .ok (.if_icmp .ne 20, 3) := by decide +kernel
theorem dX1_find_53 : decode cX1_find 53 = .ok (.aload_n 0, 1) := by decide +kernel
theorem dX1_find_54 : decode cX1_find 54 = .ok (.getfield 39, 3) := by decide +kernel
theorem dX1_find_57 : decode cX1_find 57 = .ok (.iload_n 1, 1) := by decide +kernel
theorem dX1_find_58 : decode cX1_find 58 = .ok (.bipush 12, 2) := by decide +kernel
theorem dX1_find_60 : decode cX1_find 60 = .ok (.invokevirtual 57, 3) := by decide +kernel
theorem dX1_find_63 : decode cX1_find 63 = .ok (.ifCond .gt 7, 3) := by decide +kernel
theorem dX1_find_66 : decode cX1_find 66 = .ok (.iconst 5, 1) := by decide +kernel
theorem dX1_find_67 : decode cX1_find 67 = .ok (.goto 4, 3) := by decide +kernel
theorem dX1_find_70 : decode cX1_find 70 = .ok (.iconst 2, 1) := by decide +kernel
theorem dX1_find_71 : decode cX1_find 71 = .ok (.invokevirtual 150, 3) := by decide +kernel
theorem dX1_find_74 : decode cX1_find 74 = .ok (.return_, 1) := by decide +kernel
def B_Courts_find_71   (z1 : Int32) (z2 : Int32) (σ : CS) : Option (Int32 × CS) := bnd (f_Courts_settle z1 z2 σ) (fun _ σ71 => some (0, σ71))
set_option maxHeartbeats 4000000 in
set_option maxRecDepth 100000 in
theorem w_Courts_find_71 (C : Cx g p s m args meth c A 4 cX1_find yX1_find.cls) (hr : meth.sig.returnType = none)  {res : Int32 × CS}   (z1 : Int32) (z2 : Int32)  (σ : CS) (ta : Nat → Nat) (hφ : φ0 ≤ ph σ.2.2) (hφ2 : ph σ.2.2 ≤ BB) (h : B_Courts_find_71 z1 z2 σ = some res) : NV g p l e s m args below meth c A 3 92 4 ad Rr φ0 res ta σ [] 71 [.int z2, .int z1, .ref (ad 7)] := by
  unfold B_Courts_find_71 at h
  refine nc_callVV (q0 := 7) (As := [.int z1, .int z2]) (rest := []) C h (fun _ _ e => c_Courts_settle e hφ2) tw_819 kv_X1_settle cl_Courts rfl ⟨Nat.le_of_ble_eq_true rfl, Nat.le_of_ble_eq_true rfl⟩ rfl dX1_find_71 rfl (Nat.le_of_ble_eq_true rfl) hφ hφ2 (fun r71 σ71 ta h hφ hφ2 => ?_)
  exact nc_vret C hr dX1_find_74 hφ hφ2 h
def B_Courts_find_70   (z1 : Int32) (σ : CS) : Option (Int32 × CS) := B_Courts_find_71 z1 2 σ
set_option maxHeartbeats 4000000 in
set_option maxRecDepth 100000 in
theorem w_Courts_find_70 (C : Cx g p s m args meth c A 4 cX1_find yX1_find.cls) (hr : meth.sig.returnType = none)  {res : Int32 × CS}   (z1 : Int32)  (σ : CS) (ta : Nat → Nat) (hφ : φ0 ≤ ph σ.2.2) (hφ2 : ph σ.2.2 ≤ BB) (h : B_Courts_find_70 z1 σ = some res) : NV g p l e s m args below meth c A 3 92 4 ad Rr φ0 res ta σ [] 70 [.int z1, .ref (ad 7)] := by
  unfold B_Courts_find_70 at h
  refine nw_iconst (v := 2) C dX1_find_70 (by decide) ?_
  exact nw_lv (lv' := []) [] rfl (w_Courts_find_71 C hr z1 2 _ _ hφ hφ2 h)
def f_Courts_find (p0 : Int32) (σ : CS) : Option (Int32 × CS) := bnd (f_Table_get 11 p0 8 σ) (fun r7 σ7 => bnd (f_Table_get 10 r7 4 σ7) (fun r21 σ21 => bnd (f_Table_get 10 r7 2 σ21) (fun r30 σ30 => bnd (f_Table_get 10 r7 3 σ30) (fun r39 σ39 => bnd (f_Ground_placeOn r21 r30 r39 σ39) (fun r42 σ42 => if r42 = 2 then bnd (f_Table_get 11 p0 12 σ42) (fun r60 σ60 => if 0 < r60 then B_Courts_find_70 p0 σ60 else B_Courts_find_71 p0 5 σ60) else B_Courts_find_70 p0 σ42)))))
set_option maxHeartbeats 4000000 in
set_option maxRecDepth 100000 in
theorem c_Courts_find {l : Launch} {g : EG} {ad ta : Nat → Nat} {Rr : va_W} {σ σ' : CS} {r : Int32} {p0 : Int32}  (h : f_Courts_find p0 σ = some (r, σ')) (hφ2 : ph σ.2.2 ≤ BB) : CtV l g yX1_find (.code yX1_find cX1_find 4 none) 3 92 ad ta Rr σ [.ref (ad 7), .int p0] r σ' := by
  refine Ct.of rfl (by decide) (Nat.le_of_ble_eq_true rfl) ?_
  intro p e s m args below meth c A C hr
  have hφ : ph σ.2.2 ≤ ph σ.2.2 := Nat.le_refl _
  refine nw_zero (ph σ.2.2) ?_
  show NV g p l e s m args below meth c A 3 92 4 ad Rr (ph σ.2.2) (r, σ') ta σ [(0, .ref (ad 7)), (1, .int p0)] 0 []
  unfold f_Courts_find at h
  refine nw_aload_n C dX1_find_0 rfl 0 rfl ?_
  refine nw_get (v := .ref (ad 22)) C in_X1 7 cl_Courts rfl 2 (by decide) tw_380 rfl rfl dX1_find_1 ?_
  refine nw_iload_n C dX1_find_4 rfl 1 rfl ?_
  refine nw_bipush (v := 8) C dX1_find_5 (by decide) ?_
  refine nc_callVI (q0 := 22) (As := [.int p0, .int 8]) (rest := []) C h (fun _ _ e => c_Table_get 11 (by decide) e hφ2) tw_799 kv_X9_get (cl_T 11 (by decide)) rfl ⟨Nat.le_of_ble_eq_true rfl, Nat.le_of_ble_eq_true rfl⟩ rfl dX1_find_7 rfl (Nat.le_of_ble_eq_true rfl) hφ hφ2 (fun r7 σ7 ta h hφ hφ2 => ?_)
  refine nw_istore_n (lv' := [(2, .int r7), (0, .ref (ad 7)), (1, .int p0)]) C dX1_find_10 rfl (by decide) rfl ?_
  refine nw_aload_n C dX1_find_11 rfl 1 rfl ?_
  refine nw_get (v := .ref (ad 1)) C in_X1 7 cl_Courts rfl 3 (by decide) tw_382 rfl rfl dX1_find_12 ?_
  refine nw_aload_n C dX1_find_15 rfl 1 rfl ?_
  refine nw_get (v := .ref (ad 21)) C in_X1 7 cl_Courts rfl 1 (by decide) tw_378 rfl rfl dX1_find_16 ?_
  refine nw_iload_n C dX1_find_19 rfl 0 rfl ?_
  refine nw_iconst (v := 4) C dX1_find_20 (by decide) ?_
  refine nc_callVI (q0 := 21) (As := [.int r7, .int 4]) (rest := [.ref (ad 1)]) C h (fun _ _ e => c_Table_get 10 (by decide) e hφ2) tw_799 kv_X9_get (cl_T 10 (by decide)) rfl ⟨Nat.le_of_ble_eq_true rfl, Nat.le_of_ble_eq_true rfl⟩ rfl dX1_find_21 rfl (Nat.le_of_ble_eq_true rfl) hφ hφ2 (fun r21 σ21 ta h hφ hφ2 => ?_)
  refine nw_aload_n C dX1_find_24 rfl 1 rfl ?_
  refine nw_get (v := .ref (ad 21)) C in_X1 7 cl_Courts rfl 1 (by decide) tw_378 rfl rfl dX1_find_25 ?_
  refine nw_iload_n C dX1_find_28 rfl 0 rfl ?_
  refine nw_iconst (v := 2) C dX1_find_29 (by decide) ?_
  refine nc_callVI (q0 := 21) (As := [.int r7, .int 2]) (rest := [.int r21, .ref (ad 1)]) C h (fun _ _ e => c_Table_get 10 (by decide) e hφ2) tw_799 kv_X9_get (cl_T 10 (by decide)) rfl ⟨Nat.le_of_ble_eq_true rfl, Nat.le_of_ble_eq_true rfl⟩ rfl dX1_find_30 rfl (Nat.le_of_ble_eq_true rfl) hφ hφ2 (fun r30 σ30 ta h hφ hφ2 => ?_)
  refine nw_aload_n C dX1_find_33 rfl 1 rfl ?_
  refine nw_get (v := .ref (ad 21)) C in_X1 7 cl_Courts rfl 1 (by decide) tw_378 rfl rfl dX1_find_34 ?_
  refine nw_iload_n C dX1_find_37 rfl 0 rfl ?_
  refine nw_iconst (v := 3) C dX1_find_38 (by decide) ?_
  refine nc_callVI (q0 := 21) (As := [.int r7, .int 3]) (rest := [.int r30, .int r21, .ref (ad 1)]) C h (fun _ _ e => c_Table_get 10 (by decide) e hφ2) tw_799 kv_X9_get (cl_T 10 (by decide)) rfl ⟨Nat.le_of_ble_eq_true rfl, Nat.le_of_ble_eq_true rfl⟩ rfl dX1_find_39 rfl (Nat.le_of_ble_eq_true rfl) hφ hφ2 (fun r39 σ39 ta h hφ hφ2 => ?_)
  refine nc_callVI (q0 := 1) (As := [.int r21, .int r30, .int r39]) (rest := []) C h (fun _ _ e => c_Ground_placeOn e hφ2) tw_832 kv_X2_placeOn cl_Ground rfl ⟨Nat.le_of_ble_eq_true rfl, Nat.le_of_ble_eq_true rfl⟩ rfl dX1_find_42 rfl (Nat.le_of_ble_eq_true rfl) hφ hφ2 (fun r42 σ42 ta h hφ hφ2 => ?_)
  refine nw_istore_n (lv' := [(3, .int r42), (2, .int r7), (0, .ref (ad 7)), (1, .int p0)]) C dX1_find_45 rfl (by decide) rfl ?_
  refine nw_aload_n C dX1_find_46 rfl 2 rfl ?_
  refine nw_iload_n C dX1_find_47 rfl 3 rfl ?_
  refine nw_iload_n C dX1_find_48 rfl 0 rfl ?_
  refine nw_iconst (v := 2) C dX1_find_49 (by decide) ?_
  refine nw_icmp_ne (tgt := 70) C dX1_find_50 (by decide) h (fun _ h => ?_) (fun _ h => ?_)
  · refine nw_aload_n C dX1_find_53 rfl 2 rfl ?_
    refine nw_get (v := .ref (ad 22)) C in_X1 7 cl_Courts rfl 2 (by decide) tw_380 rfl rfl dX1_find_54 ?_
    refine nw_iload_n C dX1_find_57 rfl 3 rfl ?_
    refine nw_bipush (v := 12) C dX1_find_58 (by decide) ?_
    refine nc_callVI (q0 := 22) (As := [.int p0, .int 12]) (rest := [.int p0, .ref (ad 7)]) C h (fun _ _ e => c_Table_get 11 (by decide) e hφ2) tw_799 kv_X9_get (cl_T 11 (by decide)) rfl ⟨Nat.le_of_ble_eq_true rfl, Nat.le_of_ble_eq_true rfl⟩ rfl dX1_find_60 rfl (Nat.le_of_ble_eq_true rfl) hφ hφ2 (fun r60 σ60 ta h hφ hφ2 => ?_)
    refine nw_if_gt (tgt := 70) C dX1_find_63 (by decide) h (fun _ h => ?_) (fun _ h => ?_)
    · exact nw_lv (lv' := []) [] rfl (w_Courts_find_70 C hr p0 _ _ hφ hφ2 h)
    · refine nw_iconst (v := 5) C dX1_find_66 (by decide) ?_
      refine nw_goto (tgt := 71) C dX1_find_67 (by decide) ?_
      exact nw_lv (lv' := []) [] rfl (w_Courts_find_71 C hr p0 5 _ _ hφ hφ2 h)
  · exact nw_lv (lv' := []) [] rfl (w_Courts_find_70 C hr p0 _ _ hφ hφ2 h)
theorem dX5_pay_0 : decode cX5_pay 0 = .ok (.iconst 0, 1) := by decide +kernel
theorem dX5_pay_1 : decode cX5_pay 1 = .ok (.iload_n 2, 1) := by decide +kernel
theorem dX5_pay_2 : decode cX5_pay 2 = .ok (.aload_n 0, 1) := by decide +kernel
theorem dX5_pay_3 : decode cX5_pay 3 = .ok (.getfield 14, 3) := by decide +kernel
theorem dX5_pay_6 : decode cX5_pay 6 = .ok (.iload_n 1, 1) := by decide +kernel
theorem dX5_pay_7 : decode cX5_pay 7 = .ok (.iconst 1, 1) := by decide +kernel
theorem dX5_pay_8 : decode cX5_pay 8 = .ok (.invokevirtual 32, 3) := by decide +kernel
theorem dX5_pay_11 : decode cX5_pay 11 = .ok (.invokestatic 42, 3) := by decide +kernel
theorem dX5_pay_14 : decode cX5_pay 14 = .ok (.invokestatic 47, 3) := by decide +kernel
theorem dX5_pay_17 : decode cX5_pay 17 = .ok (.istore_n 3, 1) := by decide +kernel
theorem dX5_pay_18 : decode cX5_pay 18 = .ok (.aload_n 0, 1) := by decide +kernel
theorem dX5_pay_19 : decode cX5_pay 19 = .ok (.getfield 14, 3) := by decide +kernel
theorem dX5_pay_22 : decode cX5_pay 22 = .ok (.iload_n 1, 1) := by decide +kernel
theorem dX5_pay_23 : decode cX5_pay 23 = .ok (.iconst 1, 1) := by decide +kernel
theorem dX5_pay_24 : decode cX5_pay 24 = .ok (.iload_n 3, 1) := by decide +kernel
theorem dX5_pay_25 : decode cX5_pay 25 = .ok (.ineg, 1) := by decide +kernel
theorem dX5_pay_26 : decode cX5_pay 26 = .ok (.invokevirtual 50, 3) := by decide +kernel
theorem dX5_pay_29 : decode cX5_pay 29 = .ok (.pop, 1) := by decide +kernel
theorem dX5_pay_30 : decode cX5_pay 30 = .ok (.iload_n 3, 1) := by decide +kernel
theorem dX5_pay_31 : decode cX5_pay 31 = .ok (.ireturn, 1) := by decide +kernel
def f_People_pay (p0 : Int32) (p1 : Int32) (σ : CS) : Option (Int32 × CS) := bnd (f_Table_get 6 p0 1 σ) (fun r8 σ8 => bnd (f_Table_raise 6 p0 1 (-(if 0 < (if r8 < p1 then r8 else p1) then (if r8 < p1 then r8 else p1) else 0)) σ8) (fun r26 σ26 => some ((if 0 < (if r8 < p1 then r8 else p1) then (if r8 < p1 then r8 else p1) else 0), σ26)))
set_option maxHeartbeats 4000000 in
set_option maxRecDepth 100000 in
theorem c_People_pay {l : Launch} {g : EG} {ad ta : Nat → Nat} {Rr : va_W} {σ σ' : CS} {r : Int32} {p0 : Int32} {p1 : Int32}  (h : f_People_pay p0 p1 σ = some (r, σ')) (hφ2 : ph σ.2.2 ≤ BB) : CtI l g yX5_pay (.code yX5_pay cX5_pay 4 (some .int)) 2 47 ad ta Rr σ [.ref (ad 5), .int p0, .int p1] r σ' := by
  refine Ct.of rfl (by decide) (Nat.le_of_ble_eq_true rfl) ?_
  intro p e s m args below meth c A C hr
  have hφ : ph σ.2.2 ≤ ph σ.2.2 := Nat.le_refl _
  refine nw_zero (ph σ.2.2) ?_
  show NI g p l e s m args below meth c A 2 47 4 ad Rr (ph σ.2.2) (r, σ') ta σ [(0, .ref (ad 5)), (1, .int p0), (2, .int p1)] 0 []
  unfold f_People_pay at h
  refine nw_iconst (v := 0) C dX5_pay_0 (by decide) ?_
  refine nw_iload_n C dX5_pay_1 rfl 2 rfl ?_
  refine nw_aload_n C dX5_pay_2 rfl 0 rfl ?_
  refine nw_get (v := .ref (ad 17)) C in_X5 5 cl_People rfl 0 (by decide) tw_312 rfl rfl dX5_pay_3 ?_
  refine nw_iload_n C dX5_pay_6 rfl 1 rfl ?_
  refine nw_iconst (v := 1) C dX5_pay_7 (by decide) ?_
  refine nc_callVI (q0 := 17) (As := [.int p0, .int 1]) (rest := [.int p1, .int 0]) C h (fun _ _ e => c_Table_get 6 (by decide) e hφ2) tw_812 kv_X9_get (cl_T 6 (by decide)) rfl ⟨Nat.le_of_ble_eq_true rfl, Nat.le_of_ble_eq_true rfl⟩ rfl dX5_pay_8 rfl (Nat.le_of_ble_eq_true rfl) hφ hφ2 (fun r8 σ8 ta h hφ hφ2 => ?_)
  refine nw_mmin C tw_894 tw_367 tw_125 tm_min (Nat.le_of_ble_eq_true rfl) (Nat.le_of_ble_eq_true rfl) (Nat.sub_le_sub_right hφ2 _) (Nat.mul_le_mul_left 2 (Nat.sub_le_sub_right hφ2 _)) dX5_pay_11 ?_
  refine nw_mmax C tw_895 tw_165 tw_125 tm_max (Nat.le_of_ble_eq_true rfl) (Nat.le_of_ble_eq_true rfl) (Nat.sub_le_sub_right hφ2 _) (Nat.mul_le_mul_left 2 (Nat.sub_le_sub_right hφ2 _)) dX5_pay_14 ?_
  refine nw_istore_n (lv' := [(3, .int (if 0 < (if r8 < p1 then r8 else p1) then (if r8 < p1 then r8 else p1) else 0)), (0, .ref (ad 5)), (1, .int p0), (2, .int p1)]) C dX5_pay_17 rfl (by decide) rfl ?_
  refine nw_aload_n C dX5_pay_18 rfl 1 rfl ?_
  refine nw_get (v := .ref (ad 17)) C in_X5 5 cl_People rfl 0 (by decide) tw_312 rfl rfl dX5_pay_19 ?_
  refine nw_iload_n C dX5_pay_22 rfl 2 rfl ?_
  refine nw_iconst (v := 1) C dX5_pay_23 (by decide) ?_
  refine nw_iload_n C dX5_pay_24 rfl 0 rfl ?_
  refine nw_ineg C dX5_pay_25 ?_
  refine nc_callVI (q0 := 17) (As := [.int p0, .int 1, .int (-(if 0 < (if r8 < p1 then r8 else p1) then (if r8 < p1 then r8 else p1) else 0))]) (rest := []) C h (fun _ _ e => c_Table_raise 6 (by decide) e hφ2) tw_896 kv_X9_raise (cl_T 6 (by decide)) rfl ⟨Nat.le_of_ble_eq_true rfl, Nat.le_of_ble_eq_true rfl⟩ rfl dX5_pay_26 rfl (Nat.le_of_ble_eq_true rfl) hφ hφ2 (fun r26 σ26 ta h hφ hφ2 => ?_)
  refine nw_pop C dX5_pay_29 rfl ?_
  refine nw_iload_n C dX5_pay_30 rfl 0 rfl ?_
  exact nc_iret C hr dX5_pay_31 hφ hφ2 h
theorem dX5_give_0 : decode cX5_give 0 = .ok (.aload_n 0, 1) := by decide +kernel
theorem dX5_give_1 : decode cX5_give 1 = .ok (.getfield 14, 3) := by decide +kernel
theorem dX5_give_4 : decode cX5_give 4 = .ok (.iload_n 1, 1) := by decide +kernel
theorem dX5_give_5 : decode cX5_give 5 = .ok (.iconst 1, 1) := by decide +kernel
theorem dX5_give_6 : decode cX5_give 6 = .ok (.ldc 54, 2) := by decide +kernel
theorem dX5_give_8 : decode cX5_give 8 = .ok (.aload_n 0, 1) := by decide +kernel
theorem dX5_give_9 : decode cX5_give 9 = .ok (.getfield 14, 3) := by decide +kernel
theorem dX5_give_12 : decode cX5_give 12 = .ok (.iload_n 1, 1) := by decide +kernel
theorem dX5_give_13 : decode cX5_give 13 = .ok (.iconst 1, 1) := by decide +kernel
theorem dX5_give_14 : decode cX5_give 14 = .ok (.invokevirtual 32, 3) := by decide +kernel
theorem dX5_give_17 : decode cX5_give 17 = .ok (.iload_n 2, 1) := by decide +kernel
theorem dX5_give_18 : decode cX5_give 18 = .ok (.iadd, 1) := by decide +kernel
theorem dX5_give_19 : decode cX5_give 19 = .ok (.invokestatic 42, 3) := by decide +kernel
theorem dX5_give_22 : decode cX5_give 22 = .ok (.invokevirtual 24, 3) := by decide +kernel
theorem dX5_give_25 : decode cX5_give 25 = .ok (.return_, 1) := by decide +kernel
def f_People_give (p0 : Int32) (p1 : Int32) (σ : CS) : Option (Int32 × CS) := bnd (f_Table_get 6 p0 1 σ) (fun r14 σ14 => bnd (f_Table_put 6 p0 1 (if (r14 + p1) < 1000000 then (r14 + p1) else 1000000) σ14) (fun _ σ22 => some (0, σ22)))
set_option maxHeartbeats 4000000 in
set_option maxRecDepth 100000 in
theorem c_People_give {l : Launch} {g : EG} {ad ta : Nat → Nat} {Rr : va_W} {σ σ' : CS} {r : Int32} {p0 : Int32} {p1 : Int32}  (h : f_People_give p0 p1 σ = some (r, σ')) (hφ2 : ph σ.2.2 ≤ BB) : CtV l g yX5_give (.code yX5_give cX5_give 3 none) 1 40 ad ta Rr σ [.ref (ad 5), .int p0, .int p1] r σ' := by
  refine Ct.of rfl (by decide) (Nat.le_of_ble_eq_true rfl) ?_
  intro p e s m args below meth c A C hr
  have hφ : ph σ.2.2 ≤ ph σ.2.2 := Nat.le_refl _
  refine nw_zero (ph σ.2.2) ?_
  show NV g p l e s m args below meth c A 1 40 3 ad Rr (ph σ.2.2) (r, σ') ta σ [(0, .ref (ad 5)), (1, .int p0), (2, .int p1)] 0 []
  unfold f_People_give at h
  refine nw_aload_n C dX5_give_0 rfl 0 rfl ?_
  refine nw_get (v := .ref (ad 17)) C in_X5 5 cl_People rfl 0 (by decide) tw_312 rfl rfl dX5_give_1 ?_
  refine nw_iload_n C dX5_give_4 rfl 1 rfl ?_
  refine nw_iconst (v := 1) C dX5_give_5 (by decide) ?_
  refine nw_ldc (v := 1000000) C tw_905 dX5_give_6 ?_
  refine nw_aload_n C dX5_give_8 rfl 0 rfl ?_
  refine nw_get (v := .ref (ad 17)) C in_X5 5 cl_People rfl 0 (by decide) tw_312 rfl rfl dX5_give_9 ?_
  refine nw_iload_n C dX5_give_12 rfl 1 rfl ?_
  refine nw_iconst (v := 1) C dX5_give_13 (by decide) ?_
  refine nc_callVI (q0 := 17) (As := [.int p0, .int 1]) (rest := [.int 1000000, .int 1, .int p0, .ref (ad 17)]) C h (fun _ _ e => c_Table_get 6 (by decide) e hφ2) tw_812 kv_X9_get (cl_T 6 (by decide)) rfl ⟨Nat.le_of_ble_eq_true rfl, Nat.le_of_ble_eq_true rfl⟩ rfl dX5_give_14 rfl (Nat.le_of_ble_eq_true rfl) hφ hφ2 (fun r14 σ14 ta h hφ hφ2 => ?_)
  refine nw_iload_n C dX5_give_17 rfl 2 rfl ?_
  refine nw_iadd C dX5_give_18 ?_
  refine nw_mmin C tw_894 tw_367 tw_125 tm_min (Nat.le_of_ble_eq_true rfl) (Nat.le_of_ble_eq_true rfl) (Nat.sub_le_sub_right hφ2 _) (Nat.mul_le_mul_left 2 (Nat.sub_le_sub_right hφ2 _)) dX5_give_19 ?_
  refine nc_callVV (q0 := 17) (As := [.int p0, .int 1, .int (if (r14 + p1) < 1000000 then (r14 + p1) else 1000000)]) (rest := []) C h (fun _ _ e => c_Table_put 6 (by decide) e hφ2) tw_906 kv_X9_put (cl_T 6 (by decide)) rfl ⟨Nat.le_of_ble_eq_true rfl, Nat.le_of_ble_eq_true rfl⟩ rfl dX5_give_22 rfl (Nat.le_of_ble_eq_true rfl) hφ hφ2 (fun r22 σ22 ta h hφ hφ2 => ?_)
  exact nc_vret C hr dX5_give_25 hφ hφ2 h
theorem dX1_charge_0 : decode cX1_charge 0 = .ok (.iload_n 3, 1) := by decide +kernel
theorem dX1_charge_1 : decode cX1_charge 1 = .ok (.iconst (-1), 1) := by decide +kernel
theorem dX1_charge_2 : decode cX1_charge 2 = .ok (.if_icmp .ne 5, 3) := by decide +kernel
theorem dX1_charge_5 : decode cX1_charge 5 = .ok (.iconst 0, 1) := by decide +kernel
theorem dX1_charge_6 : decode cX1_charge 6 = .ok (.ireturn, 1) := by decide +kernel
theorem dX1_charge_7 : decode cX1_charge 7 = .ok (.aload_n 0, 1) := by decide +kernel
theorem dX1_charge_8 : decode cX1_charge 8 = .ok (.getfield 19, 3) := by decide +kernel
theorem dX1_charge_11 : decode cX1_charge 11 = .ok (.iload_n 3, 1) := by decide +kernel
theorem dX1_charge_12 : decode cX1_charge 12 = .ok (.iload 4, 2) := by decide +kernel
theorem dX1_charge_14 : decode cX1_charge 14 = .ok (.invokevirtual 166, 3) := by decide +kernel
theorem dX1_charge_17 : decode cX1_charge 17 = .ok (.istore 5, 2) := by decide +kernel
theorem dX1_charge_19 : decode cX1_charge 19 = .ok (.aload_n 0, 1) := by decide +kernel
theorem dX1_charge_20 : decode cX1_charge 20 = .ok (.getfield 39, 3) := by decide +kernel
theorem dX1_charge_23 : decode cX1_charge 23 = .ok (.iload_n 1, 1) := by decide +kernel
theorem dX1_charge_24 : decode cX1_charge 24 = .ok (.bipush 9, 2) := by decide +kernel
theorem dX1_charge_26 : decode cX1_charge 26 = .ok (.invokevirtual 57, 3) := by decide +kernel
theorem dX1_charge_29 : decode cX1_charge 29 = .ok (.istore 6, 2) := by decide +kernel
theorem dX1_charge_31 : decode cX1_charge 31 = .ok (.aload_n 0, 1) := by decide +kernel
theorem dX1_charge_32 : decode cX1_charge 32 = .ok (.getfield 32, 3) := by decide +kernel
theorem dX1_charge_35 : decode cX1_charge 35 = .ok (.iload 6, 2) := by decide +kernel
theorem dX1_charge_37 : decode cX1_charge 37 = .ok (.iconst 0, 1) := by decide +kernel
theorem dX1_charge_38 : decode cX1_charge 38 = .ok (.invokevirtual 57, 3) := by decide +kernel
theorem dX1_charge_41 : decode cX1_charge 41 = .ok (.istore 7, 2) := by decide +kernel
theorem dX1_charge_43 : decode cX1_charge 43 = .ok (.aload_n 0, 1) := by decide +kernel
theorem dX1_charge_44 : decode cX1_charge 44 = .ok (.getfield 19, 3) := by decide +kernel
theorem dX1_charge_47 : decode cX1_charge 47 = .ok (.iload 7, 2) := by decide +kernel
theorem dX1_charge_49 : decode cX1_charge 49 = .ok (.invokevirtual 103, 3) := by decide +kernel
theorem dX1_charge_52 : decode cX1_charge 52 = .ok (.ifCond .eq 22, 3) := by decide +kernel
theorem dX1_charge_55 : decode cX1_charge 55 = .ok (.iload 5, 2) := by decide +kernel
theorem dX1_charge_57 : decode cX1_charge 57 = .ok (.aload_n 0, 1) := by decide +kernel
theorem dX1_charge_58 : decode cX1_charge 58 = .ok (.getfield 32, 3) := by decide +kernel
theorem dX1_charge_61 : decode cX1_charge 61 = .ok (.iload 6, 2) := by decide +kernel
theorem dX1_charge_63 : decode cX1_charge 63 = .ok (.iconst 2, 1) := by decide +kernel
theorem dX1_charge_64 : decode cX1_charge 64 = .ok (.invokevirtual 57, 3) := by decide +kernel
theorem dX1_charge_67 : decode cX1_charge 67 = .ok (.imul, 1) := by decide +kernel
theorem dX1_charge_68 : decode cX1_charge 68 = .ok (.bipush 100, 2) := by decide +kernel
theorem dX1_charge_70 : decode cX1_charge 70 = .ok (.idiv, 1) := by decide +kernel
theorem dX1_charge_71 : decode cX1_charge 71 = .ok (.goto 4, 3) := by decide +kernel
theorem dX1_charge_74 : decode cX1_charge 74 = .ok (.iconst 0, 1) := by decide +kernel
theorem dX1_charge_75 : decode cX1_charge 75 = .ok (.istore 8, 2) := by decide +kernel
theorem dX1_charge_77 : decode cX1_charge 77 = .ok (.aload_n 0, 1) := by decide +kernel
theorem dX1_charge_78 : decode cX1_charge 78 = .ok (.getfield 19, 3) := by decide +kernel
theorem dX1_charge_81 : decode cX1_charge 81 = .ok (.iload 7, 2) := by decide +kernel
theorem dX1_charge_83 : decode cX1_charge 83 = .ok (.iload 8, 2) := by decide +kernel
theorem dX1_charge_85 : decode cX1_charge 85 = .ok (.invokevirtual 169, 3) := by decide +kernel
theorem dX1_charge_88 : decode cX1_charge 88 = .ok (.aload_n 0, 1) := by decide +kernel
theorem dX1_charge_89 : decode cX1_charge 89 = .ok (.dup, 1) := by decide +kernel
theorem dX1_charge_90 : decode cX1_charge 90 = .ok (.getfield 172, 3) := by decide +kernel
theorem dX1_charge_93 : decode cX1_charge 93 = .ok (.iload 5, 2) := by decide +kernel
theorem dX1_charge_95 : decode cX1_charge 95 = .ok (.iload 8, 2) := by decide +kernel
theorem dX1_charge_97 : decode cX1_charge 97 = .ok (.isub, 1) := by decide +kernel
theorem dX1_charge_98 : decode cX1_charge 98 = .ok (.iadd, 1) := by decide +kernel
theorem dX1_charge_99 : decode cX1_charge 99 = .ok (.putfield 172, 3) := by decide +kernel
theorem dX1_charge_102 : decode cX1_charge 102 = .ok (.aload_n 0, 1) := by decide +kernel
theorem dX1_charge_103 : decode cX1_charge 103 = .ok (.getfield 39, 3) := by decide +kernel
theorem dX1_charge_106 : decode cX1_charge 106 = .ok (.iload_n 1, 1) := by decide +kernel
theorem dX1_charge_107 : decode cX1_charge 107 = .ok (.iconst 4, 1) := by decide +kernel
theorem dX1_charge_108 : decode cX1_charge 108 = .ok (.iload_n 2, 1) := by decide +kernel
theorem dX1_charge_109 : decode cX1_charge 109 = .ok (.iadd, 1) := by decide +kernel
theorem dX1_charge_110 : decode cX1_charge 110 = .ok (.iload 5, 2) := by decide +kernel
theorem dX1_charge_112 : decode cX1_charge 112 = .ok (.invokevirtual 110, 3) := by decide +kernel
theorem dX1_charge_115 : decode cX1_charge 115 = .ok (.pop, 1) := by decide +kernel
theorem dX1_charge_116 : decode cX1_charge 116 = .ok (.aload_n 0, 1) := by decide +kernel
theorem dX1_charge_117 : decode cX1_charge 117 = .ok (.getfield 39, 3) := by decide +kernel
theorem dX1_charge_120 : decode cX1_charge 120 = .ok (.iload_n 1, 1) := by decide +kernel
theorem dX1_charge_121 : decode cX1_charge 121 = .ok (.bipush 7, 2) := by decide +kernel
theorem dX1_charge_123 : decode cX1_charge 123 = .ok (.iload 8, 2) := by decide +kernel
theorem dX1_charge_125 : decode cX1_charge 125 = .ok (.invokevirtual 110, 3) := by decide +kernel
theorem dX1_charge_128 : decode cX1_charge 128 = .ok (.pop, 1) := by decide +kernel
theorem dX1_charge_129 : decode cX1_charge 129 = .ok (.iload 5, 2) := by decide +kernel
theorem dX1_charge_131 : decode cX1_charge 131 = .ok (.ireturn, 1) := by decide +kernel
def B_Courts_charge_75   (x1 : Int32) (x2 : Int32) (x5 : Int32) (x7 : Int32) (z0 : Int32) (σ : CS) : Option (Int32 × CS) := bnd (f_People_give x7 z0 σ) (fun _ σ85 => bnd (f_Table_raise 11 x1 (4 + x2) x5 (sF σ85 63 ((σ85.1 63) + (x5 - z0)))) (fun r112 σ112 => bnd (f_Table_raise 11 x1 7 z0 σ112) (fun r125 σ125 => some (x5, σ125))))
set_option maxHeartbeats 4000000 in
set_option maxRecDepth 100000 in
theorem w_Courts_charge_75 (C : Cx g p s m args meth c A 9 cX1_charge yX1_charge.cls) (hr : meth.sig.returnType = (some .int))  {res : Int32 × CS}   (x1 : Int32) (x2 : Int32) (x5 : Int32) (x7 : Int32) (z0 : Int32)  (σ : CS) (ta : Nat → Nat) (hφ : φ0 ≤ ph σ.2.2) (hφ2 : ph σ.2.2 ≤ BB) (h : B_Courts_charge_75 x1 x2 x5 x7 z0 σ = some res) : NI g p l e s m args below meth c A 3 70 9 ad Rr φ0 res ta σ [(0, .ref (ad 7)), (1, .int x1), (2, .int x2), (5, .int x5), (7, .int x7)] 75 [.int z0] := by
  unfold B_Courts_charge_75 at h
  refine nw_istore (lv' := [(8, .int z0), (0, .ref (ad 7)), (1, .int x1), (2, .int x2), (5, .int x5), (7, .int x7)]) C dX1_charge_75 (by decide) rfl ?_
  refine nw_aload_n C dX1_charge_77 rfl 1 rfl ?_
  refine nw_get (v := .ref (ad 5)) C in_X1 7 cl_Courts rfl 5 (by decide) tw_384 rfl rfl dX1_charge_78 ?_
  refine nw_iload C dX1_charge_81 5 rfl ?_
  refine nw_iload C dX1_charge_83 0 rfl ?_
  refine nc_callVV (q0 := 5) (As := [.int x7, .int z0]) (rest := []) C h (fun _ _ e => c_People_give e hφ2) tw_901 kv_X5_give cl_People rfl ⟨Nat.le_of_ble_eq_true rfl, Nat.le_of_ble_eq_true rfl⟩ rfl dX1_charge_85 rfl (Nat.le_of_ble_eq_true rfl) hφ hφ2 (fun r85 σ85 ta h hφ hφ2 => ?_)
  refine nw_aload_n C dX1_charge_88 rfl 1 rfl ?_
  refine nw_dup C dX1_charge_89 rfl ?_
  refine nw_get (v := .int (σ85.1 63)) C in_X1 7 cl_Courts rfl 12 (by decide) tw_392 rfl rfl dX1_charge_90 ?_
  refine nw_iload C dX1_charge_93 4 rfl ?_
  refine nw_iload C dX1_charge_95 0 rfl ?_
  refine nw_isub C dX1_charge_97 ?_
  refine nw_iadd C dX1_charge_98 ?_
  refine nw_put (ty := .int) C in_X1 7 cl_Courts rfl 12 (by decide) tyX1 tyX1_ok nmX1 tw_392 rfl rfl (by decide +kernel) rfl rfl (Nat.le_of_ble_eq_true rfl) dX1_charge_99 cs_Courts_chest ?_
  refine nw_aload_n C dX1_charge_102 rfl 1 rfl ?_
  refine nw_get (v := .ref (ad 22)) C in_X1 7 cl_Courts rfl 2 (by decide) tw_380 rfl rfl dX1_charge_103 ?_
  refine nw_iload_n C dX1_charge_106 rfl 2 rfl ?_
  refine nw_iconst (v := 4) C dX1_charge_107 (by decide) ?_
  refine nw_iload_n C dX1_charge_108 rfl 3 rfl ?_
  refine nw_iadd C dX1_charge_109 ?_
  refine nw_iload C dX1_charge_110 4 rfl ?_
  refine nc_callVI (q0 := 22) (As := [.int x1, .int (4 + x2), .int x5]) (rest := []) C h (fun _ _ e => c_Table_raise 11 (by decide) e hφ2) tw_907 kv_X9_raise (cl_T 11 (by decide)) rfl ⟨Nat.le_of_ble_eq_true rfl, Nat.le_of_ble_eq_true rfl⟩ rfl dX1_charge_112 rfl (Nat.le_of_ble_eq_true rfl) hφ hφ2 (fun r112 σ112 ta h hφ hφ2 => ?_)
  refine nw_pop C dX1_charge_115 rfl ?_
  refine nw_aload_n C dX1_charge_116 rfl 1 rfl ?_
  refine nw_get (v := .ref (ad 22)) C in_X1 7 cl_Courts rfl 2 (by decide) tw_380 rfl rfl dX1_charge_117 ?_
  refine nw_iload_n C dX1_charge_120 rfl 2 rfl ?_
  refine nw_bipush (v := 7) C dX1_charge_121 (by decide) ?_
  refine nw_iload C dX1_charge_123 0 rfl ?_
  refine nc_callVI (q0 := 22) (As := [.int x1, .int 7, .int z0]) (rest := []) C h (fun _ _ e => c_Table_raise 11 (by decide) e hφ2) tw_907 kv_X9_raise (cl_T 11 (by decide)) rfl ⟨Nat.le_of_ble_eq_true rfl, Nat.le_of_ble_eq_true rfl⟩ rfl dX1_charge_125 rfl (Nat.le_of_ble_eq_true rfl) hφ hφ2 (fun r125 σ125 ta h hφ hφ2 => ?_)
  refine nw_pop C dX1_charge_128 rfl ?_
  refine nw_iload C dX1_charge_129 4 rfl ?_
  exact nc_iret C hr dX1_charge_131 hφ hφ2 h
def f_Courts_charge (p0 : Int32) (p1 : Int32) (p2 : Int32) (p3 : Int32) (σ : CS) : Option (Int32 × CS) := if p2 = (-1) then some (0, σ) else bnd (f_People_pay p2 p3 σ) (fun r14 σ14 => bnd (f_Table_get 11 p0 9 σ14) (fun r26 σ26 => bnd (f_Table_get 9 r26 0 σ26) (fun r38 σ38 => bnd (f_People_lives r38 σ38) (fun r49 σ49 => if r49 = 0 then B_Courts_charge_75 p0 p1 r14 r38 0 σ49 else bnd (f_Table_get 9 r26 2 σ49) (fun r64 σ64 => B_Courts_charge_75 p0 p1 r14 r38 ((r14 * r64) / 100) σ64)))))
set_option maxHeartbeats 4000000 in
set_option maxRecDepth 100000 in
theorem c_Courts_charge {l : Launch} {g : EG} {ad ta : Nat → Nat} {Rr : va_W} {σ σ' : CS} {r : Int32} {p0 : Int32} {p1 : Int32} {p2 : Int32} {p3 : Int32}  (h : f_Courts_charge p0 p1 p2 p3 σ = some (r, σ')) (hφ2 : ph σ.2.2 ≤ BB) : CtI l g yX1_charge (.code yX1_charge cX1_charge 9 (some .int)) 3 70 ad ta Rr σ [.ref (ad 7), .int p0, .int p1, .int p2, .int p3] r σ' := by
  refine Ct.of rfl (by decide) (Nat.le_of_ble_eq_true rfl) ?_
  intro p e s m args below meth c A C hr
  have hφ : ph σ.2.2 ≤ ph σ.2.2 := Nat.le_refl _
  refine nw_zero (ph σ.2.2) ?_
  show NI g p l e s m args below meth c A 3 70 9 ad Rr (ph σ.2.2) (r, σ') ta σ [(0, .ref (ad 7)), (1, .int p0), (2, .int p1), (3, .int p2), (4, .int p3)] 0 []
  unfold f_Courts_charge at h
  refine nw_iload_n C dX1_charge_0 rfl 3 rfl ?_
  refine nw_iconst (v := (-1)) C dX1_charge_1 (by decide) ?_
  refine nw_icmp_ne (tgt := 7) C dX1_charge_2 (by decide) h (fun _ h => ?_) (fun _ h => ?_)
  · refine nw_iconst (v := 0) C dX1_charge_5 (by decide) ?_
    exact nc_iret C hr dX1_charge_6 hφ hφ2 h
  · refine nw_aload_n C dX1_charge_7 rfl 0 rfl ?_
    refine nw_get (v := .ref (ad 5)) C in_X1 7 cl_Courts rfl 5 (by decide) tw_384 rfl rfl dX1_charge_8 ?_
    refine nw_iload_n C dX1_charge_11 rfl 3 rfl ?_
    refine nw_iload C dX1_charge_12 4 rfl ?_
    refine nc_callVI (q0 := 5) (As := [.int p2, .int p3]) (rest := []) C h (fun _ _ e => c_People_pay e hφ2) tw_890 kv_X5_pay cl_People rfl ⟨Nat.le_of_ble_eq_true rfl, Nat.le_of_ble_eq_true rfl⟩ rfl dX1_charge_14 rfl (Nat.le_of_ble_eq_true rfl) hφ hφ2 (fun r14 σ14 ta h hφ hφ2 => ?_)
    refine nw_istore (lv' := [(5, .int r14), (0, .ref (ad 7)), (1, .int p0), (2, .int p1), (3, .int p2), (4, .int p3)]) C dX1_charge_17 (by decide) rfl ?_
    refine nw_aload_n C dX1_charge_19 rfl 1 rfl ?_
    refine nw_get (v := .ref (ad 22)) C in_X1 7 cl_Courts rfl 2 (by decide) tw_380 rfl rfl dX1_charge_20 ?_
    refine nw_iload_n C dX1_charge_23 rfl 2 rfl ?_
    refine nw_bipush (v := 9) C dX1_charge_24 (by decide) ?_
    refine nc_callVI (q0 := 22) (As := [.int p0, .int 9]) (rest := []) C h (fun _ _ e => c_Table_get 11 (by decide) e hφ2) tw_799 kv_X9_get (cl_T 11 (by decide)) rfl ⟨Nat.le_of_ble_eq_true rfl, Nat.le_of_ble_eq_true rfl⟩ rfl dX1_charge_26 rfl (Nat.le_of_ble_eq_true rfl) hφ hφ2 (fun r26 σ26 ta h hφ hφ2 => ?_)
    refine nw_istore (lv' := [(6, .int r26), (5, .int r14), (0, .ref (ad 7)), (1, .int p0), (2, .int p1), (3, .int p2), (4, .int p3)]) C dX1_charge_29 (by decide) rfl ?_
    refine nw_aload_n C dX1_charge_31 rfl 2 rfl ?_
    refine nw_get (v := .ref (ad 20)) C in_X1 7 cl_Courts rfl 0 (by decide) tw_376 rfl rfl dX1_charge_32 ?_
    refine nw_iload C dX1_charge_35 0 rfl ?_
    refine nw_iconst (v := 0) C dX1_charge_37 (by decide) ?_
    refine nc_callVI (q0 := 20) (As := [.int r26, .int 0]) (rest := []) C h (fun _ _ e => c_Table_get 9 (by decide) e hφ2) tw_799 kv_X9_get (cl_T 9 (by decide)) rfl ⟨Nat.le_of_ble_eq_true rfl, Nat.le_of_ble_eq_true rfl⟩ rfl dX1_charge_38 rfl (Nat.le_of_ble_eq_true rfl) hφ hφ2 (fun r38 σ38 ta h hφ hφ2 => ?_)
    refine nw_istore (lv' := [(7, .int r38), (6, .int r26), (5, .int r14), (0, .ref (ad 7)), (1, .int p0), (2, .int p1), (3, .int p2), (4, .int p3)]) C dX1_charge_41 (by decide) rfl ?_
    refine nw_aload_n C dX1_charge_43 rfl 3 rfl ?_
    refine nw_get (v := .ref (ad 5)) C in_X1 7 cl_Courts rfl 5 (by decide) tw_384 rfl rfl dX1_charge_44 ?_
    refine nw_iload C dX1_charge_47 0 rfl ?_
    refine nc_callVI (q0 := 5) (As := [.int r38]) (rest := []) C h (fun _ _ e => c_People_lives e hφ2) tw_804 kv_X5_lives cl_People rfl ⟨Nat.le_of_ble_eq_true rfl, Nat.le_of_ble_eq_true rfl⟩ rfl dX1_charge_49 rfl (Nat.le_of_ble_eq_true rfl) hφ hφ2 (fun r49 σ49 ta h hφ hφ2 => ?_)
    refine nw_if_eq (tgt := 74) C dX1_charge_52 (by decide) h (fun _ h => ?_) (fun _ h => ?_)
    · refine nw_iconst (v := 0) C dX1_charge_74 (by decide) ?_
      exact nw_lv (lv' := [(0, .ref (ad 7)), (1, .int p0), (2, .int p1), (5, .int r14), (7, .int r38)]) [3, 4, 5, 2, 0] rfl (w_Courts_charge_75 C hr p0 p1 r14 r38 0 _ _ hφ hφ2 h)
    · refine nw_iload C dX1_charge_55 2 rfl ?_
      refine nw_aload_n C dX1_charge_57 rfl 3 rfl ?_
      refine nw_get (v := .ref (ad 20)) C in_X1 7 cl_Courts rfl 0 (by decide) tw_376 rfl rfl dX1_charge_58 ?_
      refine nw_iload C dX1_charge_61 1 rfl ?_
      refine nw_iconst (v := 2) C dX1_charge_63 (by decide) ?_
      refine nc_callVI (q0 := 20) (As := [.int r26, .int 2]) (rest := [.int r14]) C h (fun _ _ e => c_Table_get 9 (by decide) e hφ2) tw_799 kv_X9_get (cl_T 9 (by decide)) rfl ⟨Nat.le_of_ble_eq_true rfl, Nat.le_of_ble_eq_true rfl⟩ rfl dX1_charge_64 rfl (Nat.le_of_ble_eq_true rfl) hφ hφ2 (fun r64 σ64 ta h hφ hφ2 => ?_)
      refine nw_imul C dX1_charge_67 ?_
      refine nw_bipush (v := 100) C dX1_charge_68 (by decide) ?_
      refine nw_idivk C dX1_charge_70 (by decide) ?_
      refine nw_goto (tgt := 75) C dX1_charge_71 (by decide) ?_
      exact nw_lv (lv' := [(0, .ref (ad 7)), (1, .int p0), (2, .int p1), (5, .int r14), (7, .int r38)]) [3, 4, 5, 2, 0] rfl (w_Courts_charge_75 C hr p0 p1 r14 r38 ((r14 * r64) / 100) _ _ hφ hφ2 h)
theorem dX1_whoPaysFor_0 : decode cX1_whoPaysFor 0 = .ok (.aload_n 0, 1) := by decide +kernel
theorem dX1_whoPaysFor_1 : decode cX1_whoPaysFor 1 = .ok (.getfield 19, 3) := by decide +kernel
theorem dX1_whoPaysFor_4 : decode cX1_whoPaysFor 4 = .ok (.iload_n 1, 1) := by decide +kernel
theorem dX1_whoPaysFor_5 : decode cX1_whoPaysFor 5 = .ok (.invokevirtual 103, 3) := by decide +kernel
theorem dX1_whoPaysFor_8 : decode cX1_whoPaysFor 8 = .ok (.ifCond .eq 7, 3) := by decide +kernel
theorem dX1_whoPaysFor_11 : decode cX1_whoPaysFor 11 = .ok (.iload_n 1, 1) := by decide +kernel
theorem dX1_whoPaysFor_12 : decode cX1_whoPaysFor 12 = .ok (.goto 11, 3) := by decide +kernel
theorem dX1_whoPaysFor_15 : decode cX1_whoPaysFor 15 = .ok (.aload_n 0, 1) := by decide +kernel
theorem dX1_whoPaysFor_16 : decode cX1_whoPaysFor 16 = .ok (.getfield 19, 3) := by decide +kernel
theorem dX1_whoPaysFor_19 : decode cX1_whoPaysFor 19 = .ok (.iload_n 1, 1) := by decide +kernel
theorem dX1_whoPaysFor_20 : decode cX1_whoPaysFor 20 = .ok (.invokevirtual 153, 3) := by decide +kernel
theorem dX1_whoPaysFor_23 : decode cX1_whoPaysFor 23 = .ok (.ireturn, 1) := by decide +kernel
def f_Courts_whoPaysFor (p0 : Int32) (σ : CS) : Option (Int32 × CS) := bnd (f_People_lives p0 σ) (fun r5 σ5 => if r5 = 0 then bnd (f_People_heirOf p0 σ5) (fun r20 σ20 => some (r20, σ20)) else some (p0, σ5))
set_option maxHeartbeats 4000000 in
set_option maxRecDepth 100000 in
theorem c_Courts_whoPaysFor {l : Launch} {g : EG} {ad ta : Nat → Nat} {Rr : va_W} {σ σ' : CS} {r : Int32} {p0 : Int32}  (h : f_Courts_whoPaysFor p0 σ = some (r, σ')) (hφ2 : ph σ.2.2 ≤ BB) : CtI l g yX1_whoPaysFor (.code yX1_whoPaysFor cX1_whoPaysFor 2 (some .int)) 3 67 ad ta Rr σ [.ref (ad 7), .int p0] r σ' := by
  refine Ct.of rfl (by decide) (Nat.le_of_ble_eq_true rfl) ?_
  intro p e s m args below meth c A C hr
  have hφ : ph σ.2.2 ≤ ph σ.2.2 := Nat.le_refl _
  refine nw_zero (ph σ.2.2) ?_
  show NI g p l e s m args below meth c A 3 67 2 ad Rr (ph σ.2.2) (r, σ') ta σ [(0, .ref (ad 7)), (1, .int p0)] 0 []
  unfold f_Courts_whoPaysFor at h
  refine nw_aload_n C dX1_whoPaysFor_0 rfl 0 rfl ?_
  refine nw_get (v := .ref (ad 5)) C in_X1 7 cl_Courts rfl 5 (by decide) tw_384 rfl rfl dX1_whoPaysFor_1 ?_
  refine nw_iload_n C dX1_whoPaysFor_4 rfl 1 rfl ?_
  refine nc_callVI (q0 := 5) (As := [.int p0]) (rest := []) C h (fun _ _ e => c_People_lives e hφ2) tw_804 kv_X5_lives cl_People rfl ⟨Nat.le_of_ble_eq_true rfl, Nat.le_of_ble_eq_true rfl⟩ rfl dX1_whoPaysFor_5 rfl (Nat.le_of_ble_eq_true rfl) hφ hφ2 (fun r5 σ5 ta h hφ hφ2 => ?_)
  refine nw_if_eq (tgt := 15) C dX1_whoPaysFor_8 (by decide) h (fun _ h => ?_) (fun _ h => ?_)
  · refine nw_aload_n C dX1_whoPaysFor_15 rfl 0 rfl ?_
    refine nw_get (v := .ref (ad 5)) C in_X1 7 cl_Courts rfl 5 (by decide) tw_384 rfl rfl dX1_whoPaysFor_16 ?_
    refine nw_iload_n C dX1_whoPaysFor_19 rfl 1 rfl ?_
    refine nc_callVI (q0 := 5) (As := [.int p0]) (rest := []) C h (fun _ _ e => c_People_heirOf e hφ2) tw_813 kv_X5_heirOf cl_People rfl ⟨Nat.le_of_ble_eq_true rfl, Nat.le_of_ble_eq_true rfl⟩ rfl dX1_whoPaysFor_20 rfl (Nat.le_of_ble_eq_true rfl) hφ hφ2 (fun r20 σ20 ta h hφ hφ2 => ?_)
    exact nc_iret C hr dX1_whoPaysFor_23 hφ hφ2 h
  · refine nw_iload_n C dX1_whoPaysFor_11 rfl 1 rfl ?_
    refine nw_goto (tgt := 23) C dX1_whoPaysFor_12 (by decide) ?_
    exact nc_iret C hr dX1_whoPaysFor_23 hφ hφ2 h
theorem dX1_askFor_0 : decode cX1_askFor 0 = .ok (.aload_n 0, 1) := by decide +kernel
theorem dX1_askFor_1 : decode cX1_askFor 1 = .ok (.getfield 39, 3) := by decide +kernel
theorem dX1_askFor_4 : decode cX1_askFor 4 = .ok (.iload_n 1, 1) := by decide +kernel
theorem dX1_askFor_5 : decode cX1_askFor 5 = .ok (.iconst 0, 1) := by decide +kernel
theorem dX1_askFor_6 : decode cX1_askFor 6 = .ok (.invokevirtual 57, 3) := by decide +kernel
theorem dX1_askFor_9 : decode cX1_askFor 9 = .ok (.iconst 4, 1) := by decide +kernel
theorem dX1_askFor_10 : decode cX1_askFor 10 = .ok (.if_icmp .ne 7, 3) := by decide +kernel
theorem dX1_askFor_13 : decode cX1_askFor 13 = .ok (.iconst 1, 1) := by decide +kernel
theorem dX1_askFor_14 : decode cX1_askFor 14 = .ok (.goto 4, 3) := by decide +kernel
theorem dX1_askFor_17 : decode cX1_askFor 17 = .ok (.iconst 0, 1) := by decide +kernel
theorem dX1_askFor_18 : decode cX1_askFor 18 = .ok (.istore_n 2, 1) := by decide +kernel
theorem dX1_askFor_19 : decode cX1_askFor 19 = .ok (.iload_n 2, 1) := by decide +kernel
theorem dX1_askFor_20 : decode cX1_askFor 20 = .ok (.ifCond .eq 15, 3) := by decide +kernel
theorem dX1_askFor_23 : decode cX1_askFor 23 = .ok (.aload_n 0, 1) := by decide +kernel
theorem dX1_askFor_24 : decode cX1_askFor 24 = .ok (.getfield 39, 3) := by decide +kernel
theorem dX1_askFor_27 : decode cX1_askFor 27 = .ok (.iload_n 1, 1) := by decide +kernel
theorem dX1_askFor_28 : decode cX1_askFor 28 = .ok (.iconst 3, 1) := by decide +kernel
theorem dX1_askFor_29 : decode cX1_askFor 29 = .ok (.invokevirtual 57, 3) := by decide +kernel
theorem dX1_askFor_32 : decode cX1_askFor 32 = .ok (.goto 17, 3) := by decide +kernel
theorem dX1_askFor_35 : decode cX1_askFor 35 = .ok (.aload_n 0, 1) := by decide +kernel
theorem dX1_askFor_36 : decode cX1_askFor 36 = .ok (.aload_n 0, 1) := by decide +kernel
theorem dX1_askFor_37 : decode cX1_askFor 37 = .ok (.getfield 39, 3) := by decide +kernel
theorem dX1_askFor_40 : decode cX1_askFor 40 = .ok (.iload_n 1, 1) := by decide +kernel
theorem dX1_askFor_41 : decode cX1_askFor 41 = .ok (.bipush 8, 2) := by decide +kernel
theorem dX1_askFor_43 : decode cX1_askFor 43 = .ok (.invokevirtual 57, 3) := by decide +kernel
theorem dX1_askFor_46 : decode cX1_askFor 46 = .ok (.invokevirtual 156, 3) := by decide +kernel
theorem dX1_askFor_49 : decode cX1_askFor 49 = .ok (.istore_n 3, 1) := by decide +kernel
theorem dX1_askFor_50 : decode cX1_askFor 50 = .ok (.iload_n 3, 1) := by decide +kernel
theorem dX1_askFor_51 : decode cX1_askFor 51 = .ok (.aload_n 0, 1) := by decide +kernel
theorem dX1_askFor_52 : decode cX1_askFor 52 = .ok (.iload_n 1, 1) := by decide +kernel
theorem dX1_askFor_53 : decode cX1_askFor 53 = .ok (.iconst 0, 1) := by decide +kernel
theorem dX1_askFor_54 : decode cX1_askFor 54 = .ok (.aload_n 0, 1) := by decide +kernel
theorem dX1_askFor_55 : decode cX1_askFor 55 = .ok (.getfield 39, 3) := by decide +kernel
theorem dX1_askFor_58 : decode cX1_askFor 58 = .ok (.iload_n 1, 1) := by decide +kernel
theorem dX1_askFor_59 : decode cX1_askFor 59 = .ok (.iconst 1, 1) := by decide +kernel
theorem dX1_askFor_60 : decode cX1_askFor 60 = .ok (.invokevirtual 57, 3) := by decide +kernel
theorem dX1_askFor_63 : decode cX1_askFor 63 = .ok (.iload_n 3, 1) := by decide +kernel
theorem dX1_askFor_64 : decode cX1_askFor 64 = .ok (.invokevirtual 159, 3) := by decide +kernel
theorem dX1_askFor_67 : decode cX1_askFor 67 = .ok (.isub, 1) := by decide +kernel
theorem dX1_askFor_68 : decode cX1_askFor 68 = .ok (.istore_n 3, 1) := by decide +kernel
theorem dX1_askFor_69 : decode cX1_askFor 69 = .ok (.iload_n 3, 1) := by decide +kernel
theorem dX1_askFor_70 : decode cX1_askFor 70 = .ok (.iconst 2, 1) := by decide +kernel
theorem dX1_askFor_71 : decode cX1_askFor 71 = .ok (.idiv, 1) := by decide +kernel
theorem dX1_askFor_72 : decode cX1_askFor 72 = .ok (.istore 4, 2) := by decide +kernel
theorem dX1_askFor_74 : decode cX1_askFor 74 = .ok (.iload_n 3, 1) := by decide +kernel
theorem dX1_askFor_75 : decode cX1_askFor 75 = .ok (.iload 4, 2) := by decide +kernel
theorem dX1_askFor_77 : decode cX1_askFor 77 = .ok (.isub, 1) := by decide +kernel
theorem dX1_askFor_78 : decode cX1_askFor 78 = .ok (.istore 5, 2) := by decide +kernel
theorem dX1_askFor_80 : decode cX1_askFor 80 = .ok (.iload_n 3, 1) := by decide +kernel
theorem dX1_askFor_81 : decode cX1_askFor 81 = .ok (.aload_n 0, 1) := by decide +kernel
theorem dX1_askFor_82 : decode cX1_askFor 82 = .ok (.iload_n 1, 1) := by decide +kernel
theorem dX1_askFor_83 : decode cX1_askFor 83 = .ok (.iconst 1, 1) := by decide +kernel
theorem dX1_askFor_84 : decode cX1_askFor 84 = .ok (.aload_n 0, 1) := by decide +kernel
theorem dX1_askFor_85 : decode cX1_askFor 85 = .ok (.aload_n 0, 1) := by decide +kernel
theorem dX1_askFor_86 : decode cX1_askFor 86 = .ok (.getfield 39, 3) := by decide +kernel
theorem dX1_askFor_89 : decode cX1_askFor 89 = .ok (.iload_n 1, 1) := by decide +kernel
theorem dX1_askFor_90 : decode cX1_askFor 90 = .ok (.bipush 10, 2) := by decide +kernel
theorem dX1_askFor_92 : decode cX1_askFor 92 = .ok (.invokevirtual 57, 3) := by decide +kernel
theorem dX1_askFor_95 : decode cX1_askFor 95 = .ok (.invokevirtual 163, 3) := by decide +kernel
theorem dX1_askFor_98 : decode cX1_askFor 98 = .ok (.iload 5, 2) := by decide +kernel
theorem dX1_askFor_100 : decode cX1_askFor 100 = .ok (.invokevirtual 159, 3) := by decide +kernel
theorem dX1_askFor_103 : decode cX1_askFor 103 = .ok (.isub, 1) := by decide +kernel
theorem dX1_askFor_104 : decode cX1_askFor 104 = .ok (.istore_n 3, 1) := by decide +kernel
theorem dX1_askFor_105 : decode cX1_askFor 105 = .ok (.iload_n 3, 1) := by decide +kernel
theorem dX1_askFor_106 : decode cX1_askFor 106 = .ok (.aload_n 0, 1) := by decide +kernel
theorem dX1_askFor_107 : decode cX1_askFor 107 = .ok (.iload_n 1, 1) := by decide +kernel
theorem dX1_askFor_108 : decode cX1_askFor 108 = .ok (.iconst 2, 1) := by decide +kernel
theorem dX1_askFor_109 : decode cX1_askFor 109 = .ok (.aload_n 0, 1) := by decide +kernel
theorem dX1_askFor_110 : decode cX1_askFor 110 = .ok (.aload_n 0, 1) := by decide +kernel
theorem dX1_askFor_111 : decode cX1_askFor 111 = .ok (.getfield 39, 3) := by decide +kernel
theorem dX1_askFor_114 : decode cX1_askFor 114 = .ok (.iload_n 1, 1) := by decide +kernel
theorem dX1_askFor_115 : decode cX1_askFor 115 = .ok (.bipush 11, 2) := by decide +kernel
theorem dX1_askFor_117 : decode cX1_askFor 117 = .ok (.invokevirtual 57, 3) := by decide +kernel
theorem dX1_askFor_120 : decode cX1_askFor 120 = .ok (.invokevirtual 163, 3) := by decide +kernel
theorem dX1_askFor_123 : decode cX1_askFor 123 = .ok (.iload 4, 2) := by decide +kernel
theorem dX1_askFor_125 : decode cX1_askFor 125 = .ok (.invokevirtual 159, 3) := by decide +kernel
theorem dX1_askFor_128 : decode cX1_askFor 128 = .ok (.isub, 1) := by decide +kernel
theorem dX1_askFor_129 : decode cX1_askFor 129 = .ok (.istore_n 3, 1) := by decide +kernel
theorem dX1_askFor_130 : decode cX1_askFor 130 = .ok (.aload_n 0, 1) := by decide +kernel
theorem dX1_askFor_131 : decode cX1_askFor 131 = .ok (.getfield 39, 3) := by decide +kernel
theorem dX1_askFor_134 : decode cX1_askFor 134 = .ok (.iload_n 1, 1) := by decide +kernel
theorem dX1_askFor_135 : decode cX1_askFor 135 = .ok (.iconst 3, 1) := by decide +kernel
theorem dX1_askFor_136 : decode cX1_askFor 136 = .ok (.iload_n 3, 1) := by decide +kernel
theorem dX1_askFor_137 : decode cX1_askFor 137 = .ok (.invokevirtual 53, 3) := by decide +kernel
theorem dX1_askFor_140 : decode cX1_askFor 140 = .ok (.aload_n 0, 1) := by decide +kernel
theorem dX1_askFor_141 : decode cX1_askFor 141 = .ok (.iload_n 1, 1) := by decide +kernel
theorem dX1_askFor_142 : decode cX1_askFor 142 = .ok (.iload_n 3, 1) := by decide +kernel
theorem dX1_askFor_143 : decode cX1_askFor 143 = .ok (.ifCond .ne 7, 3) := by decide +kernel
theorem dX1_askFor_146 : decode cX1_askFor 146 = .ok (.iconst 3, 1) := by decide +kernel
theorem dX1_askFor_147 : decode cX1_askFor 147 = .ok (.goto 4, 3) := by decide +kernel
theorem dX1_askFor_150 : decode cX1_askFor 150 = .ok (.iconst 4, 1) := by decide +kernel
theorem dX1_askFor_151 : decode cX1_askFor 151 = .ok (.invokevirtual 150, 3) := by decide +kernel
theorem dX1_askFor_154 : decode cX1_askFor 154 = .ok (.return_, 1) := by decide +kernel
def B_Courts_askFor_151   (z1 : Int32) (z2 : Int32) (σ : CS) : Option (Int32 × CS) := bnd (f_Courts_settle z1 z2 σ) (fun _ σ151 => some (0, σ151))
set_option maxHeartbeats 4000000 in
set_option maxRecDepth 100000 in
theorem w_Courts_askFor_151 (C : Cx g p s m args meth c A 6 cX1_askFor yX1_askFor.cls) (hr : meth.sig.returnType = none)  {res : Int32 × CS}   (z1 : Int32) (z2 : Int32)  (σ : CS) (ta : Nat → Nat) (hφ : φ0 ≤ ph σ.2.2) (hφ2 : ph σ.2.2 ≤ BB) (h : B_Courts_askFor_151 z1 z2 σ = some res) : NV g p l e s m args below meth c A 5 136 6 ad Rr φ0 res ta σ [] 151 [.int z2, .int z1, .ref (ad 7)] := by
  unfold B_Courts_askFor_151 at h
  refine nc_callVV (q0 := 7) (As := [.int z1, .int z2]) (rest := []) C h (fun _ _ e => c_Courts_settle e hφ2) tw_819 kv_X1_settle cl_Courts rfl ⟨Nat.le_of_ble_eq_true rfl, Nat.le_of_ble_eq_true rfl⟩ rfl dX1_askFor_151 rfl (Nat.le_of_ble_eq_true rfl) hφ hφ2 (fun r151 σ151 ta h hφ hφ2 => ?_)
  exact nc_vret C hr dX1_askFor_154 hφ hφ2 h
def B_Courts_askFor_49   (x1 : Int32) (z0 : Int32) (σ : CS) : Option (Int32 × CS) := bnd (f_Table_get 11 x1 1 σ) (fun r60 σ60 => bnd (f_Courts_charge x1 0 r60 z0 σ60) (fun r64 σ64 => bnd (f_Table_get 11 x1 10 σ64) (fun r92 σ92 => bnd (f_Courts_whoPaysFor r92 σ92) (fun r95 σ95 => bnd (f_Courts_charge x1 1 r95 ((z0 - r64) - ((z0 - r64) / 2)) σ95) (fun r100 σ100 => bnd (f_Table_get 11 x1 11 σ100) (fun r117 σ117 => bnd (f_Courts_whoPaysFor r117 σ117) (fun r120 σ120 => bnd (f_Courts_charge x1 2 r120 ((z0 - r64) / 2) σ120) (fun r125 σ125 => bnd (f_Table_put 11 x1 3 (((z0 - r64) - r100) - r125) σ125) (fun _ σ137 => if (((z0 - r64) - r100) - r125) = 0 then B_Courts_askFor_151 x1 3 σ137 else B_Courts_askFor_151 x1 4 σ137)))))))))
set_option maxHeartbeats 4000000 in
set_option maxRecDepth 100000 in
theorem w_Courts_askFor_49 (C : Cx g p s m args meth c A 6 cX1_askFor yX1_askFor.cls) (hr : meth.sig.returnType = none)  {res : Int32 × CS}   (x1 : Int32) (z0 : Int32)  (σ : CS) (ta : Nat → Nat) (hφ : φ0 ≤ ph σ.2.2) (hφ2 : ph σ.2.2 ≤ BB) (h : B_Courts_askFor_49 x1 z0 σ = some res) : NV g p l e s m args below meth c A 5 136 6 ad Rr φ0 res ta σ [(0, .ref (ad 7)), (1, .int x1)] 49 [.int z0] := by
  unfold B_Courts_askFor_49 at h
  refine nw_istore_n (lv' := [(3, .int z0), (0, .ref (ad 7)), (1, .int x1)]) C dX1_askFor_49 rfl (by decide) rfl ?_
  refine nw_iload_n C dX1_askFor_50 rfl 0 rfl ?_
  refine nw_aload_n C dX1_askFor_51 rfl 1 rfl ?_
  refine nw_iload_n C dX1_askFor_52 rfl 2 rfl ?_
  refine nw_iconst (v := 0) C dX1_askFor_53 (by decide) ?_
  refine nw_aload_n C dX1_askFor_54 rfl 1 rfl ?_
  refine nw_get (v := .ref (ad 22)) C in_X1 7 cl_Courts rfl 2 (by decide) tw_380 rfl rfl dX1_askFor_55 ?_
  refine nw_iload_n C dX1_askFor_58 rfl 2 rfl ?_
  refine nw_iconst (v := 1) C dX1_askFor_59 (by decide) ?_
  refine nc_callVI (q0 := 22) (As := [.int x1, .int 1]) (rest := [.int 0, .int x1, .ref (ad 7), .int z0]) C h (fun _ _ e => c_Table_get 11 (by decide) e hφ2) tw_799 kv_X9_get (cl_T 11 (by decide)) rfl ⟨Nat.le_of_ble_eq_true rfl, Nat.le_of_ble_eq_true rfl⟩ rfl dX1_askFor_60 rfl (Nat.le_of_ble_eq_true rfl) hφ hφ2 (fun r60 σ60 ta h hφ hφ2 => ?_)
  refine nw_iload_n C dX1_askFor_63 rfl 0 rfl ?_
  refine nc_callVI (q0 := 7) (As := [.int x1, .int 0, .int r60, .int z0]) (rest := [.int z0]) C h (fun _ _ e => c_Courts_charge e hφ2) tw_886 kv_X1_charge cl_Courts rfl ⟨Nat.le_of_ble_eq_true rfl, Nat.le_of_ble_eq_true rfl⟩ rfl dX1_askFor_64 rfl (Nat.le_of_ble_eq_true rfl) hφ hφ2 (fun r64 σ64 ta h hφ hφ2 => ?_)
  refine nw_isub C dX1_askFor_67 ?_
  refine nw_istore_n (lv' := [(3, .int (z0 - r64)), (0, .ref (ad 7)), (1, .int x1)]) C dX1_askFor_68 rfl (by decide) rfl ?_
  refine nw_iload_n C dX1_askFor_69 rfl 0 rfl ?_
  refine nw_iconst (v := 2) C dX1_askFor_70 (by decide) ?_
  refine nw_idivk C dX1_askFor_71 (by decide) ?_
  refine nw_istore (lv' := [(4, .int ((z0 - r64) / 2)), (3, .int (z0 - r64)), (0, .ref (ad 7)), (1, .int x1)]) C dX1_askFor_72 (by decide) rfl ?_
  refine nw_iload_n C dX1_askFor_74 rfl 1 rfl ?_
  refine nw_iload C dX1_askFor_75 0 rfl ?_
  refine nw_isub C dX1_askFor_77 ?_
  refine nw_istore (lv' := [(5, .int ((z0 - r64) - ((z0 - r64) / 2))), (4, .int ((z0 - r64) / 2)), (3, .int (z0 - r64)), (0, .ref (ad 7)), (1, .int x1)]) C dX1_askFor_78 (by decide) rfl ?_
  refine nw_iload_n C dX1_askFor_80 rfl 2 rfl ?_
  refine nw_aload_n C dX1_askFor_81 rfl 3 rfl ?_
  refine nw_iload_n C dX1_askFor_82 rfl 4 rfl ?_
  refine nw_iconst (v := 1) C dX1_askFor_83 (by decide) ?_
  refine nw_aload_n C dX1_askFor_84 rfl 3 rfl ?_
  refine nw_aload_n C dX1_askFor_85 rfl 3 rfl ?_
  refine nw_get (v := .ref (ad 22)) C in_X1 7 cl_Courts rfl 2 (by decide) tw_380 rfl rfl dX1_askFor_86 ?_
  refine nw_iload_n C dX1_askFor_89 rfl 4 rfl ?_
  refine nw_bipush (v := 10) C dX1_askFor_90 (by decide) ?_
  refine nc_callVI (q0 := 22) (As := [.int x1, .int 10]) (rest := [.ref (ad 7), .int 1, .int x1, .ref (ad 7), .int (z0 - r64)]) C h (fun _ _ e => c_Table_get 11 (by decide) e hφ2) tw_799 kv_X9_get (cl_T 11 (by decide)) rfl ⟨Nat.le_of_ble_eq_true rfl, Nat.le_of_ble_eq_true rfl⟩ rfl dX1_askFor_92 rfl (Nat.le_of_ble_eq_true rfl) hφ hφ2 (fun r92 σ92 ta h hφ hφ2 => ?_)
  refine nc_callVI (q0 := 7) (As := [.int r92]) (rest := [.int 1, .int x1, .ref (ad 7), .int (z0 - r64)]) C h (fun _ _ e => c_Courts_whoPaysFor e hφ2) tw_908 kv_X1_whoPaysFor cl_Courts rfl ⟨Nat.le_of_ble_eq_true rfl, Nat.le_of_ble_eq_true rfl⟩ rfl dX1_askFor_95 rfl (Nat.le_of_ble_eq_true rfl) hφ hφ2 (fun r95 σ95 ta h hφ hφ2 => ?_)
  refine nw_iload C dX1_askFor_98 0 rfl ?_
  refine nc_callVI (q0 := 7) (As := [.int x1, .int 1, .int r95, .int ((z0 - r64) - ((z0 - r64) / 2))]) (rest := [.int (z0 - r64)]) C h (fun _ _ e => c_Courts_charge e hφ2) tw_886 kv_X1_charge cl_Courts rfl ⟨Nat.le_of_ble_eq_true rfl, Nat.le_of_ble_eq_true rfl⟩ rfl dX1_askFor_100 rfl (Nat.le_of_ble_eq_true rfl) hφ hφ2 (fun r100 σ100 ta h hφ hφ2 => ?_)
  refine nw_isub C dX1_askFor_103 ?_
  refine nw_istore_n (lv' := [(3, .int ((z0 - r64) - r100)), (5, .int ((z0 - r64) - ((z0 - r64) / 2))), (4, .int ((z0 - r64) / 2)), (0, .ref (ad 7)), (1, .int x1)]) C dX1_askFor_104 rfl (by decide) rfl ?_
  refine nw_iload_n C dX1_askFor_105 rfl 0 rfl ?_
  refine nw_aload_n C dX1_askFor_106 rfl 3 rfl ?_
  refine nw_iload_n C dX1_askFor_107 rfl 4 rfl ?_
  refine nw_iconst (v := 2) C dX1_askFor_108 (by decide) ?_
  refine nw_aload_n C dX1_askFor_109 rfl 3 rfl ?_
  refine nw_aload_n C dX1_askFor_110 rfl 3 rfl ?_
  refine nw_get (v := .ref (ad 22)) C in_X1 7 cl_Courts rfl 2 (by decide) tw_380 rfl rfl dX1_askFor_111 ?_
  refine nw_iload_n C dX1_askFor_114 rfl 4 rfl ?_
  refine nw_bipush (v := 11) C dX1_askFor_115 (by decide) ?_
  refine nc_callVI (q0 := 22) (As := [.int x1, .int 11]) (rest := [.ref (ad 7), .int 2, .int x1, .ref (ad 7), .int ((z0 - r64) - r100)]) C h (fun _ _ e => c_Table_get 11 (by decide) e hφ2) tw_799 kv_X9_get (cl_T 11 (by decide)) rfl ⟨Nat.le_of_ble_eq_true rfl, Nat.le_of_ble_eq_true rfl⟩ rfl dX1_askFor_117 rfl (Nat.le_of_ble_eq_true rfl) hφ hφ2 (fun r117 σ117 ta h hφ hφ2 => ?_)
  refine nc_callVI (q0 := 7) (As := [.int r117]) (rest := [.int 2, .int x1, .ref (ad 7), .int ((z0 - r64) - r100)]) C h (fun _ _ e => c_Courts_whoPaysFor e hφ2) tw_908 kv_X1_whoPaysFor cl_Courts rfl ⟨Nat.le_of_ble_eq_true rfl, Nat.le_of_ble_eq_true rfl⟩ rfl dX1_askFor_120 rfl (Nat.le_of_ble_eq_true rfl) hφ hφ2 (fun r120 σ120 ta h hφ hφ2 => ?_)
  refine nw_iload C dX1_askFor_123 2 rfl ?_
  refine nc_callVI (q0 := 7) (As := [.int x1, .int 2, .int r120, .int ((z0 - r64) / 2)]) (rest := [.int ((z0 - r64) - r100)]) C h (fun _ _ e => c_Courts_charge e hφ2) tw_886 kv_X1_charge cl_Courts rfl ⟨Nat.le_of_ble_eq_true rfl, Nat.le_of_ble_eq_true rfl⟩ rfl dX1_askFor_125 rfl (Nat.le_of_ble_eq_true rfl) hφ hφ2 (fun r125 σ125 ta h hφ hφ2 => ?_)
  refine nw_isub C dX1_askFor_128 ?_
  refine nw_istore_n (lv' := [(3, .int (((z0 - r64) - r100) - r125)), (5, .int ((z0 - r64) - ((z0 - r64) / 2))), (4, .int ((z0 - r64) / 2)), (0, .ref (ad 7)), (1, .int x1)]) C dX1_askFor_129 rfl (by decide) rfl ?_
  refine nw_aload_n C dX1_askFor_130 rfl 3 rfl ?_
  refine nw_get (v := .ref (ad 22)) C in_X1 7 cl_Courts rfl 2 (by decide) tw_380 rfl rfl dX1_askFor_131 ?_
  refine nw_iload_n C dX1_askFor_134 rfl 4 rfl ?_
  refine nw_iconst (v := 3) C dX1_askFor_135 (by decide) ?_
  refine nw_iload_n C dX1_askFor_136 rfl 0 rfl ?_
  refine nc_callVV (q0 := 22) (As := [.int x1, .int 3, .int (((z0 - r64) - r100) - r125)]) (rest := []) C h (fun _ _ e => c_Table_put 11 (by decide) e hφ2) tw_823 kv_X9_put (cl_T 11 (by decide)) rfl ⟨Nat.le_of_ble_eq_true rfl, Nat.le_of_ble_eq_true rfl⟩ rfl dX1_askFor_137 rfl (Nat.le_of_ble_eq_true rfl) hφ hφ2 (fun r137 σ137 ta h hφ hφ2 => ?_)
  refine nw_aload_n C dX1_askFor_140 rfl 3 rfl ?_
  refine nw_iload_n C dX1_askFor_141 rfl 4 rfl ?_
  refine nw_iload_n C dX1_askFor_142 rfl 0 rfl ?_
  refine nw_if_ne (tgt := 150) C dX1_askFor_143 (by decide) h (fun _ h => ?_) (fun _ h => ?_)
  · refine nw_iconst (v := 3) C dX1_askFor_146 (by decide) ?_
    refine nw_goto (tgt := 151) C dX1_askFor_147 (by decide) ?_
    exact nw_lv (lv' := []) [] rfl (w_Courts_askFor_151 C hr x1 3 _ _ hφ hφ2 h)
  · refine nw_iconst (v := 4) C dX1_askFor_150 (by decide) ?_
    exact nw_lv (lv' := []) [] rfl (w_Courts_askFor_151 C hr x1 4 _ _ hφ hφ2 h)
def B_Courts_askFor_18   (x1 : Int32) (z0 : Int32) (σ : CS) : Option (Int32 × CS) := if z0 = 0 then bnd (f_Table_get 11 x1 8 σ) (fun r43 σ43 => bnd (f_Courts_fineOf r43 σ43) (fun r46 σ46 => B_Courts_askFor_49 x1 r46 σ46)) else bnd (f_Table_get 11 x1 3 σ) (fun r29 σ29 => B_Courts_askFor_49 x1 r29 σ29)
set_option maxHeartbeats 4000000 in
set_option maxRecDepth 100000 in
theorem w_Courts_askFor_18 (C : Cx g p s m args meth c A 6 cX1_askFor yX1_askFor.cls) (hr : meth.sig.returnType = none)  {res : Int32 × CS}   (x1 : Int32) (z0 : Int32)  (σ : CS) (ta : Nat → Nat) (hφ : φ0 ≤ ph σ.2.2) (hφ2 : ph σ.2.2 ≤ BB) (h : B_Courts_askFor_18 x1 z0 σ = some res) : NV g p l e s m args below meth c A 5 136 6 ad Rr φ0 res ta σ [(0, .ref (ad 7)), (1, .int x1)] 18 [.int z0] := by
  unfold B_Courts_askFor_18 at h
  refine nw_istore_n (lv' := [(2, .int z0), (0, .ref (ad 7)), (1, .int x1)]) C dX1_askFor_18 rfl (by decide) rfl ?_
  refine nw_iload_n C dX1_askFor_19 rfl 0 rfl ?_
  refine nw_if_eq (tgt := 35) C dX1_askFor_20 (by decide) h (fun _ h => ?_) (fun _ h => ?_)
  · refine nw_aload_n C dX1_askFor_35 rfl 1 rfl ?_
    refine nw_aload_n C dX1_askFor_36 rfl 1 rfl ?_
    refine nw_get (v := .ref (ad 22)) C in_X1 7 cl_Courts rfl 2 (by decide) tw_380 rfl rfl dX1_askFor_37 ?_
    refine nw_iload_n C dX1_askFor_40 rfl 2 rfl ?_
    refine nw_bipush (v := 8) C dX1_askFor_41 (by decide) ?_
    refine nc_callVI (q0 := 22) (As := [.int x1, .int 8]) (rest := [.ref (ad 7)]) C h (fun _ _ e => c_Table_get 11 (by decide) e hφ2) tw_799 kv_X9_get (cl_T 11 (by decide)) rfl ⟨Nat.le_of_ble_eq_true rfl, Nat.le_of_ble_eq_true rfl⟩ rfl dX1_askFor_43 rfl (Nat.le_of_ble_eq_true rfl) hφ hφ2 (fun r43 σ43 ta h hφ hφ2 => ?_)
    refine nc_callVI (q0 := 7) (As := [.int r43]) (rest := []) C h (fun _ _ e => c_Courts_fineOf e hφ2) tw_857 kv_X1_fineOf cl_Courts rfl ⟨Nat.le_of_ble_eq_true rfl, Nat.le_of_ble_eq_true rfl⟩ rfl dX1_askFor_46 rfl (Nat.le_of_ble_eq_true rfl) hφ hφ2 (fun r46 σ46 ta h hφ hφ2 => ?_)
    exact nw_lv (lv' := [(0, .ref (ad 7)), (1, .int x1)]) [1, 2] rfl (w_Courts_askFor_49 C hr x1 r46 _ _ hφ hφ2 h)
  · refine nw_aload_n C dX1_askFor_23 rfl 1 rfl ?_
    refine nw_get (v := .ref (ad 22)) C in_X1 7 cl_Courts rfl 2 (by decide) tw_380 rfl rfl dX1_askFor_24 ?_
    refine nw_iload_n C dX1_askFor_27 rfl 2 rfl ?_
    refine nw_iconst (v := 3) C dX1_askFor_28 (by decide) ?_
    refine nc_callVI (q0 := 22) (As := [.int x1, .int 3]) (rest := []) C h (fun _ _ e => c_Table_get 11 (by decide) e hφ2) tw_799 kv_X9_get (cl_T 11 (by decide)) rfl ⟨Nat.le_of_ble_eq_true rfl, Nat.le_of_ble_eq_true rfl⟩ rfl dX1_askFor_29 rfl (Nat.le_of_ble_eq_true rfl) hφ hφ2 (fun r29 σ29 ta h hφ hφ2 => ?_)
    refine nw_goto (tgt := 49) C dX1_askFor_32 (by decide) ?_
    exact nw_lv (lv' := [(0, .ref (ad 7)), (1, .int x1)]) [1, 2] rfl (w_Courts_askFor_49 C hr x1 r29 _ _ hφ hφ2 h)
def f_Courts_askFor (p0 : Int32) (σ : CS) : Option (Int32 × CS) := bnd (f_Table_get 11 p0 0 σ) (fun r6 σ6 => if r6 = 4 then B_Courts_askFor_18 p0 1 σ6 else B_Courts_askFor_18 p0 0 σ6)
set_option maxHeartbeats 4000000 in
set_option maxRecDepth 100000 in
theorem c_Courts_askFor {l : Launch} {g : EG} {ad ta : Nat → Nat} {Rr : va_W} {σ σ' : CS} {r : Int32} {p0 : Int32}  (h : f_Courts_askFor p0 σ = some (r, σ')) (hφ2 : ph σ.2.2 ≤ BB) : CtV l g yX1_askFor (.code yX1_askFor cX1_askFor 6 none) 5 136 ad ta Rr σ [.ref (ad 7), .int p0] r σ' := by
  refine Ct.of rfl (by decide) (Nat.le_of_ble_eq_true rfl) ?_
  intro p e s m args below meth c A C hr
  have hφ : ph σ.2.2 ≤ ph σ.2.2 := Nat.le_refl _
  refine nw_zero (ph σ.2.2) ?_
  show NV g p l e s m args below meth c A 5 136 6 ad Rr (ph σ.2.2) (r, σ') ta σ [(0, .ref (ad 7)), (1, .int p0)] 0 []
  unfold f_Courts_askFor at h
  refine nw_aload_n C dX1_askFor_0 rfl 0 rfl ?_
  refine nw_get (v := .ref (ad 22)) C in_X1 7 cl_Courts rfl 2 (by decide) tw_380 rfl rfl dX1_askFor_1 ?_
  refine nw_iload_n C dX1_askFor_4 rfl 1 rfl ?_
  refine nw_iconst (v := 0) C dX1_askFor_5 (by decide) ?_
  refine nc_callVI (q0 := 22) (As := [.int p0, .int 0]) (rest := []) C h (fun _ _ e => c_Table_get 11 (by decide) e hφ2) tw_799 kv_X9_get (cl_T 11 (by decide)) rfl ⟨Nat.le_of_ble_eq_true rfl, Nat.le_of_ble_eq_true rfl⟩ rfl dX1_askFor_6 rfl (Nat.le_of_ble_eq_true rfl) hφ hφ2 (fun r6 σ6 ta h hφ hφ2 => ?_)
  refine nw_iconst (v := 4) C dX1_askFor_9 (by decide) ?_
  refine nw_icmp_ne (tgt := 17) C dX1_askFor_10 (by decide) h (fun _ h => ?_) (fun _ h => ?_)
  · refine nw_iconst (v := 1) C dX1_askFor_13 (by decide) ?_
    refine nw_goto (tgt := 18) C dX1_askFor_14 (by decide) ?_
    exact nw_lv (lv' := [(0, .ref (ad 7)), (1, .int p0)]) [0, 1] rfl (w_Courts_askFor_18 C hr p0 1 _ _ hφ hφ2 h)
  · refine nw_iconst (v := 0) C dX1_askFor_17 (by decide) ?_
    exact nw_lv (lv' := [(0, .ref (ad 7)), (1, .int p0)]) [0, 1] rfl (w_Courts_askFor_18 C hr p0 0 _ _ hφ hφ2 h)
theorem dX1_beginDay_0 : decode cX1_beginDay 0 = .ok (.aload_n 0, 1) := by decide +kernel
theorem dX1_beginDay_1 : decode cX1_beginDay 1 = .ok (.dup, 1) := by decide +kernel
theorem dX1_beginDay_2 : decode cX1_beginDay 2 = .ok (.getfield 106, 3) := by decide +kernel
theorem dX1_beginDay_5 : decode cX1_beginDay 5 = .ok (.iconst 1, 1) := by decide +kernel
theorem dX1_beginDay_6 : decode cX1_beginDay 6 = .ok (.iadd, 1) := by decide +kernel
theorem dX1_beginDay_7 : decode cX1_beginDay 7 = .ok (.putfield 106, 3) := by decide +kernel
theorem dX1_beginDay_10 : decode cX1_beginDay 10 = .ok (.aload_n 0, 1) := by decide +kernel
theorem dX1_beginDay_11 : decode cX1_beginDay 11 = .ok (.getfield 106, 3) := by decide +kernel
theorem dX1_beginDay_14 : decode cX1_beginDay 14 = .ok (.aload_n 0, 1) := by decide +kernel
theorem dX1_beginDay_15 : decode cX1_beginDay 15 = .ok (.getfield 113, 3) := by decide +kernel
theorem dX1_beginDay_18 : decode cX1_beginDay 18 = .ok (.if_icmp .ge 20, 3) := by decide +kernel
theorem dX1_beginDay_21 : decode cX1_beginDay 21 = .ok (.aload_n 0, 1) := by decide +kernel
theorem dX1_beginDay_22 : decode cX1_beginDay 22 = .ok (.getfield 15, 3) := by decide +kernel
theorem dX1_beginDay_25 : decode cX1_beginDay 25 = .ok (.getfield 116, 3) := by decide +kernel
theorem dX1_beginDay_28 : decode cX1_beginDay 28 = .ok (.invokevirtual 119, 3) := by decide +kernel
theorem dX1_beginDay_31 : decode cX1_beginDay 31 = .ok (.aload_n 0, 1) := by decide +kernel
theorem dX1_beginDay_32 : decode cX1_beginDay 32 = .ok (.getfield 122, 3) := by decide +kernel
theorem dX1_beginDay_35 : decode cX1_beginDay 35 = .ok (.if_icmp .eq 7, 3) := by decide +kernel
theorem dX1_beginDay_38 : decode cX1_beginDay 38 = .ok (.aload_n 0, 1) := by decide +kernel
theorem dX1_beginDay_39 : decode cX1_beginDay 39 = .ok (.invokevirtual 125, 3) := by decide +kernel
theorem dX1_beginDay_42 : decode cX1_beginDay 42 = .ok (.iconst 0, 1) := by decide +kernel
theorem dX1_beginDay_43 : decode cX1_beginDay 43 = .ok (.istore_n 1, 1) := by decide +kernel
theorem dX1_beginDay_44 : decode cX1_beginDay 44 = .ok (.iload_n 1, 1) := by decide +kernel
theorem dX1_beginDay_45 : decode cX1_beginDay 45 = .ok (.aload_n 0, 1) := by decide +kernel
theorem dX1_beginDay_46 : decode cX1_beginDay 46 = .ok (.getfield 49, 3) := by decide +kernel
theorem dX1_beginDay_49 : decode cX1_beginDay 49 = .ok (.arraylength, 1) := by decide +kernel
theorem dX1_beginDay_50 : decode cX1_beginDay 50 = .ok (.if_icmp .ge 111, 3) := by decide +kernel
theorem dX1_beginDay_53 : decode cX1_beginDay 53 = .ok (.aload_n 0, 1) := by decide +kernel
theorem dX1_beginDay_54 : decode cX1_beginDay 54 = .ok (.getfield 49, 3) := by decide +kernel
theorem dX1_beginDay_57 : decode cX1_beginDay 57 = .ok (.iload_n 1, 1) := by decide +kernel
theorem dX1_beginDay_58 : decode cX1_beginDay 58 = .ok (.iaload, 1) := by decide +kernel
theorem dX1_beginDay_59 : decode cX1_beginDay 59 = .ok (.ifCond .le 21, 3) := by decide +kernel
theorem dX1_beginDay_62 : decode cX1_beginDay 62 = .ok (.aload_n 0, 1) := by decide +kernel
theorem dX1_beginDay_63 : decode cX1_beginDay 63 = .ok (.getfield 106, 3) := by decide +kernel
theorem dX1_beginDay_66 : decode cX1_beginDay 66 = .ok (.aload_n 0, 1) := by decide +kernel
theorem dX1_beginDay_67 : decode cX1_beginDay 67 = .ok (.getfield 49, 3) := by decide +kernel
theorem dX1_beginDay_70 : decode cX1_beginDay 70 = .ok (.iload_n 1, 1) := by decide +kernel
theorem dX1_beginDay_71 : decode cX1_beginDay 71 = .ok (.iaload, 1) := by decide +kernel
theorem dX1_beginDay_72 : decode cX1_beginDay 72 = .ok (.irem, 1) := by decide +kernel
theorem dX1_beginDay_73 : decode cX1_beginDay 73 = .ok (.ifCond .ne 7, 3) := by decide +kernel
theorem dX1_beginDay_76 : decode cX1_beginDay 76 = .ok (.iconst 1, 1) := by decide +kernel
theorem dX1_beginDay_77 : decode cX1_beginDay 77 = .ok (.goto 4, 3) := by decide +kernel
theorem dX1_beginDay_80 : decode cX1_beginDay 80 = .ok (.iconst 0, 1) := by decide +kernel
theorem dX1_beginDay_81 : decode cX1_beginDay 81 = .ok (.istore_n 2, 1) := by decide +kernel
theorem dX1_beginDay_82 : decode cX1_beginDay 82 = .ok (.iconst 0, 1) := by decide +kernel
theorem dX1_beginDay_83 : decode cX1_beginDay 83 = .ok (.istore_n 3, 1) := by decide +kernel
theorem dX1_beginDay_84 : decode cX1_beginDay 84 = .ok (.iload_n 2, 1) := by decide +kernel
theorem dX1_beginDay_85 : decode cX1_beginDay 85 = .ok (.ifCond .eq 70, 3) := by decide +kernel
theorem dX1_beginDay_88 : decode cX1_beginDay 88 = .ok (.iload_n 3, 1) := by decide +kernel
theorem dX1_beginDay_89 : decode cX1_beginDay 89 = .ok (.aload_n 0, 1) := by decide +kernel
theorem dX1_beginDay_90 : decode cX1_beginDay 90 = .ok (.getfield 39, 3) := by decide +kernel
theorem dX1_beginDay_93 : decode cX1_beginDay 93 = .ok (.invokevirtual 119, 3) := by decide +kernel
theorem dX1_beginDay_96 : decode cX1_beginDay 96 = .ok (.if_icmp .ge 59, 3) := by decide +kernel
theorem dX1_beginDay_99 : decode cX1_beginDay 99 = .ok (.aload_n 0, 1) := by decide +kernel
theorem dX1_beginDay_100 : decode cX1_beginDay 100 = .ok (.iload_n 3, 1) := by decide +kernel
theorem dX1_beginDay_101 : decode cX1_beginDay 101 = .ok (.iload_n 1, 1) := by decide +kernel
theorem dX1_beginDay_102 : decode cX1_beginDay 102 = .ok (.invokevirtual 128, 3) := by decide +kernel
theorem dX1_beginDay_105 : decode cX1_beginDay 105 = .ok (.ifCond .eq 44, 3) := by decide +kernel
theorem dX1_beginDay_108 : decode cX1_beginDay 108 = .ok (.aload_n 0, 1) := by decide +kernel
theorem dX1_beginDay_109 : decode cX1_beginDay 109 = .ok (.iload_n 3, 1) := by decide +kernel
theorem dX1_beginDay_110 : decode cX1_beginDay 110 = .ok (.invokevirtual 132, 3) := by decide +kernel
theorem dX1_beginDay_113 : decode cX1_beginDay 113 = .ok (.ifCond .ne 6, 3) := by decide +kernel
theorem dX1_beginDay_116 : decode cX1_beginDay 116 = .ok (.goto 33, 3) := by decide +kernel
theorem dX1_beginDay_119 : decode cX1_beginDay 119 = .ok (.iload_n 1, 1) := by decide +kernel
theorem dX1_beginDay_120 : decode cX1_beginDay 120 = .ok (.ifCond .ne 11, 3) := by decide +kernel
theorem dX1_beginDay_123 : decode cX1_beginDay 123 = .ok (.aload_n 0, 1) := by decide +kernel
theorem dX1_beginDay_124 : decode cX1_beginDay 124 = .ok (.iload_n 3, 1) := by decide +kernel
theorem dX1_beginDay_125 : decode cX1_beginDay 125 = .ok (.invokevirtual 135, 3) := by decide +kernel
theorem dX1_beginDay_128 : decode cX1_beginDay 128 = .ok (.goto 21, 3) := by decide +kernel
theorem dX1_beginDay_131 : decode cX1_beginDay 131 = .ok (.iload_n 1, 1) := by decide +kernel
theorem dX1_beginDay_132 : decode cX1_beginDay 132 = .ok (.iconst 1, 1) := by decide +kernel
theorem dX1_beginDay_133 : decode cX1_beginDay 133 = .ok (.if_icmp .ne 11, 3) := by decide +kernel
theorem dX1_beginDay_136 : decode cX1_beginDay 136 = .ok (.aload_n 0, 1) := by decide +kernel
theorem dX1_beginDay_137 : decode cX1_beginDay 137 = .ok (.iload_n 3, 1) := by decide +kernel
theorem dX1_beginDay_138 : decode cX1_beginDay 138 = .ok (.invokevirtual 138, 3) := by decide +kernel
theorem dX1_beginDay_141 : decode cX1_beginDay 141 = .ok (.goto 8, 3) := by decide +kernel
theorem dX1_beginDay_144 : decode cX1_beginDay 144 = .ok (.aload_n 0, 1) := by decide +kernel
theorem dX1_beginDay_145 : decode cX1_beginDay 145 = .ok (.iload_n 3, 1) := by decide +kernel
theorem dX1_beginDay_146 : decode cX1_beginDay 146 = .ok (.invokevirtual 141, 3) := by decide +kernel
theorem dX1_beginDay_149 : decode cX1_beginDay 149 = .ok (.iinc 3 1, 3) := by decide +kernel
theorem dX1_beginDay_152 : decode cX1_beginDay 152 = .ok (.goto (-68), 3) := by decide +kernel
theorem dX1_beginDay_155 : decode cX1_beginDay 155 = .ok (.iinc 1 1, 3) := by decide +kernel
theorem dX1_beginDay_158 : decode cX1_beginDay 158 = .ok (.goto (-114), 3) := by decide +kernel
theorem dX1_beginDay_161 : decode cX1_beginDay 161 = .ok (.return_, 1) := by decide +kernel
def L_Courts_beginDay_84 (k44 : Int32 → CS → Option (Int32 × CS)) (x1 : Int32) (x2 : Int32) : Nat → Int32 → CS → Option (Int32 × CS)
  | 0, _, _ => none
  | n + 1, x3, σ => if x2 = 0 then k44 (x1 + 1) σ else bnd (f_Table_size 11 σ) (fun r93 σ93 => if r93 ≤ x3 then k44 (x1 + 1) σ93 else bnd (f_Courts_comesUp x3 x1 σ93) (fun r102 σ102 => if r102 = 0 then (L_Courts_beginDay_84 k44 x1 x2 n) (x3 + 1) σ102 else bnd (f_Courts_findAccused x3 σ102) (fun r110 σ110 => if r110 = 0 then (L_Courts_beginDay_84 k44 x1 x2 n) (x3 + 1) σ110 else if x1 = 0 then bnd (f_Courts_attach x3 σ110) (fun _ σ125 => (L_Courts_beginDay_84 k44 x1 x2 n) (x3 + 1) σ125) else if x1 = 1 then bnd (f_Courts_find x3 σ110) (fun _ σ138 => (L_Courts_beginDay_84 k44 x1 x2 n) (x3 + 1) σ138) else bnd (f_Courts_askFor x3 σ110) (fun _ σ146 => (L_Courts_beginDay_84 k44 x1 x2 n) (x3 + 1) σ146))))
set_option maxHeartbeats 4000000 in
set_option maxRecDepth 100000 in
theorem w_Courts_beginDay_84 (C : Cx g p s m args meth c A 4 cX1_beginDay yX1_beginDay.cls) (hr : meth.sig.returnType = none)  {res : Int32 × CS}  (x1 : Int32) (x2 : Int32) {k44 : Int32 → CS → Option (Int32 × CS)} (hk44 : ∀ (x1 : Int32) (σ : CS) (ta : Nat → Nat), φ0 ≤ ph σ.2.2 → ph σ.2.2 ≤ BB → k44 x1 σ = some res → NV g p l e s m args below meth c A 6 161 4 ad Rr φ0 res ta σ [(0, .ref (ad 7)), (1, .int x1)] 44 []) : ∀ (n : Nat) (x3 : Int32) (σ : CS) (ta : Nat → Nat), φ0 ≤ ph σ.2.2 → ph σ.2.2 ≤ BB → L_Courts_beginDay_84 k44 x1 x2 n x3 σ = some res → NV g p l e s m args below meth c A 6 161 4 ad Rr φ0 res ta σ [(0, .ref (ad 7)), (1, .int x1), (2, .int x2), (3, .int x3)] 84 [] := by
  intro n
  induction n with
  | zero =>
    intro x3 σ ta hφ hφ2 h
    exact absurd (show (none : Option (Int32 × CS)) = some res from h) (by intro h9; cases h9)
  | succ n ih =>
    intro x3 σ ta hφ hφ2 h
    rw [L_Courts_beginDay_84] at h
    refine nw_iload_n C dX1_beginDay_84 rfl 2 rfl ?_
    refine nw_if_eq (tgt := 155) C dX1_beginDay_85 (by decide) h (fun _ h => ?_) (fun _ h => ?_)
    · refine nw_iinc (lv' := [(1, .int (x1 + 1)), (0, .ref (ad 7)), (2, .int x2), (3, .int x3)]) C (x1 + 1) dX1_beginDay_155 1 rfl rfl (by decide) rfl ?_
      refine nw_goto (tgt := 44) C dX1_beginDay_158 (by decide) ?_
      exact nw_lv (lv' := [(0, .ref (ad 7)), (1, .int (x1 + 1))]) [1, 0] rfl (hk44 (x1 + 1) _ _ hφ hφ2 h)
    · refine nw_iload_n C dX1_beginDay_88 rfl 3 rfl ?_
      refine nw_aload_n C dX1_beginDay_89 rfl 0 rfl ?_
      refine nw_get (v := .ref (ad 22)) C in_X1 7 cl_Courts rfl 2 (by decide) tw_380 rfl rfl dX1_beginDay_90 ?_
      refine nc_callVI (q0 := 22) (As := []) (rest := [.int x3]) C h (fun _ _ e => c_Table_size 11 (by decide) e hφ2) tw_773 kv_X9_size (cl_T 11 (by decide)) rfl ⟨Nat.le_of_ble_eq_true rfl, Nat.le_of_ble_eq_true rfl⟩ rfl dX1_beginDay_93 rfl (Nat.le_of_ble_eq_true rfl) hφ hφ2 (fun r93 σ93 ta h hφ hφ2 => ?_)
      refine nw_icmp_ge (tgt := 155) C dX1_beginDay_96 (by decide) h (fun _ h => ?_) (fun _ h => ?_)
      · refine nw_iinc (lv' := [(1, .int (x1 + 1)), (0, .ref (ad 7)), (2, .int x2), (3, .int x3)]) C (x1 + 1) dX1_beginDay_155 1 rfl rfl (by decide) rfl ?_
        refine nw_goto (tgt := 44) C dX1_beginDay_158 (by decide) ?_
        exact nw_lv (lv' := [(0, .ref (ad 7)), (1, .int (x1 + 1))]) [1, 0] rfl (hk44 (x1 + 1) _ _ hφ hφ2 h)
      · refine nw_aload_n C dX1_beginDay_99 rfl 0 rfl ?_
        refine nw_iload_n C dX1_beginDay_100 rfl 3 rfl ?_
        refine nw_iload_n C dX1_beginDay_101 rfl 1 rfl ?_
        refine nc_callVI (q0 := 7) (As := [.int x3, .int x1]) (rest := []) C h (fun _ _ e => c_Courts_comesUp e hφ2) tw_795 kv_X1_comesUp cl_Courts rfl ⟨Nat.le_of_ble_eq_true rfl, Nat.le_of_ble_eq_true rfl⟩ rfl dX1_beginDay_102 rfl (Nat.le_of_ble_eq_true rfl) hφ hφ2 (fun r102 σ102 ta h hφ hφ2 => ?_)
        refine nw_if_eq (tgt := 149) C dX1_beginDay_105 (by decide) h (fun _ h => ?_) (fun _ h => ?_)
        · refine nw_iinc (lv' := [(3, .int (x3 + 1)), (0, .ref (ad 7)), (1, .int x1), (2, .int x2)]) C (x3 + 1) dX1_beginDay_149 3 rfl rfl (by decide) rfl ?_
          refine nw_goto (tgt := 84) C dX1_beginDay_152 (by decide) ?_
          exact nw_lv (lv' := [(0, .ref (ad 7)), (1, .int x1), (2, .int x2), (3, .int (x3 + 1))]) [1, 2, 3, 0] rfl (ih (x3 + 1) _ _ hφ hφ2 h)
        · refine nw_aload_n C dX1_beginDay_108 rfl 0 rfl ?_
          refine nw_iload_n C dX1_beginDay_109 rfl 3 rfl ?_
          refine nc_callVI (q0 := 7) (As := [.int x3]) (rest := []) C h (fun _ _ e => c_Courts_findAccused e hφ2) tw_800 kv_X1_findAccused cl_Courts rfl ⟨Nat.le_of_ble_eq_true rfl, Nat.le_of_ble_eq_true rfl⟩ rfl dX1_beginDay_110 rfl (Nat.le_of_ble_eq_true rfl) hφ hφ2 (fun r110 σ110 ta h hφ hφ2 => ?_)
          refine nw_if_ne (tgt := 119) C dX1_beginDay_113 (by decide) h (fun _ h => ?_) (fun _ h => ?_)
          · refine nw_goto (tgt := 149) C dX1_beginDay_116 (by decide) ?_
            refine nw_iinc (lv' := [(3, .int (x3 + 1)), (0, .ref (ad 7)), (1, .int x1), (2, .int x2)]) C (x3 + 1) dX1_beginDay_149 3 rfl rfl (by decide) rfl ?_
            refine nw_goto (tgt := 84) C dX1_beginDay_152 (by decide) ?_
            exact nw_lv (lv' := [(0, .ref (ad 7)), (1, .int x1), (2, .int x2), (3, .int (x3 + 1))]) [1, 2, 3, 0] rfl (ih (x3 + 1) _ _ hφ hφ2 h)
          · refine nw_iload_n C dX1_beginDay_119 rfl 1 rfl ?_
            refine nw_if_ne (tgt := 131) C dX1_beginDay_120 (by decide) h (fun _ h => ?_) (fun _ h => ?_)
            · refine nw_aload_n C dX1_beginDay_123 rfl 0 rfl ?_
              refine nw_iload_n C dX1_beginDay_124 rfl 3 rfl ?_
              refine nc_callVV (q0 := 7) (As := [.int x3]) (rest := []) C h (fun _ _ e => c_Courts_attach e hφ2) tw_824 kv_X1_attach cl_Courts rfl ⟨Nat.le_of_ble_eq_true rfl, Nat.le_of_ble_eq_true rfl⟩ rfl dX1_beginDay_125 rfl (Nat.le_of_ble_eq_true rfl) hφ hφ2 (fun r125 σ125 ta h hφ hφ2 => ?_)
              refine nw_goto (tgt := 149) C dX1_beginDay_128 (by decide) ?_
              refine nw_iinc (lv' := [(3, .int (x3 + 1)), (0, .ref (ad 7)), (1, .int x1), (2, .int x2)]) C (x3 + 1) dX1_beginDay_149 3 rfl rfl (by decide) rfl ?_
              refine nw_goto (tgt := 84) C dX1_beginDay_152 (by decide) ?_
              exact nw_lv (lv' := [(0, .ref (ad 7)), (1, .int x1), (2, .int x2), (3, .int (x3 + 1))]) [1, 2, 3, 0] rfl (ih (x3 + 1) _ _ hφ hφ2 h)
            · refine nw_iload_n C dX1_beginDay_131 rfl 1 rfl ?_
              refine nw_iconst (v := 1) C dX1_beginDay_132 (by decide) ?_
              refine nw_icmp_ne (tgt := 144) C dX1_beginDay_133 (by decide) h (fun _ h => ?_) (fun _ h => ?_)
              · refine nw_aload_n C dX1_beginDay_136 rfl 0 rfl ?_
                refine nw_iload_n C dX1_beginDay_137 rfl 3 rfl ?_
                refine nc_callVV (q0 := 7) (As := [.int x3]) (rest := []) C h (fun _ _ e => c_Courts_find e hφ2) tw_828 kv_X1_find cl_Courts rfl ⟨Nat.le_of_ble_eq_true rfl, Nat.le_of_ble_eq_true rfl⟩ rfl dX1_beginDay_138 rfl (Nat.le_of_ble_eq_true rfl) hφ hφ2 (fun r138 σ138 ta h hφ hφ2 => ?_)
                refine nw_goto (tgt := 149) C dX1_beginDay_141 (by decide) ?_
                refine nw_iinc (lv' := [(3, .int (x3 + 1)), (0, .ref (ad 7)), (1, .int x1), (2, .int x2)]) C (x3 + 1) dX1_beginDay_149 3 rfl rfl (by decide) rfl ?_
                refine nw_goto (tgt := 84) C dX1_beginDay_152 (by decide) ?_
                exact nw_lv (lv' := [(0, .ref (ad 7)), (1, .int x1), (2, .int x2), (3, .int (x3 + 1))]) [1, 2, 3, 0] rfl (ih (x3 + 1) _ _ hφ hφ2 h)
              · refine nw_aload_n C dX1_beginDay_144 rfl 0 rfl ?_
                refine nw_iload_n C dX1_beginDay_145 rfl 3 rfl ?_
                refine nc_callVV (q0 := 7) (As := [.int x3]) (rest := []) C h (fun _ _ e => c_Courts_askFor e hφ2) tw_853 kv_X1_askFor cl_Courts rfl ⟨Nat.le_of_ble_eq_true rfl, Nat.le_of_ble_eq_true rfl⟩ rfl dX1_beginDay_146 rfl (Nat.le_of_ble_eq_true rfl) hφ hφ2 (fun r146 σ146 ta h hφ hφ2 => ?_)
                refine nw_iinc (lv' := [(3, .int (x3 + 1)), (0, .ref (ad 7)), (1, .int x1), (2, .int x2)]) C (x3 + 1) dX1_beginDay_149 3 rfl rfl (by decide) rfl ?_
                refine nw_goto (tgt := 84) C dX1_beginDay_152 (by decide) ?_
                exact nw_lv (lv' := [(0, .ref (ad 7)), (1, .int x1), (2, .int x2), (3, .int (x3 + 1))]) [1, 2, 3, 0] rfl (ih (x3 + 1) _ _ hφ hφ2 h)
def L_Courts_beginDay_44   : Nat → Int32 → CS → Option (Int32 × CS)
  | 0, _, _ => none
  | n + 1, x1, σ => if 3 ≤ x1 then some (0, σ) else gix x1 3 (if (rd σ 22 x1) ≤ 0 then L_Courts_beginDay_84 (L_Courts_beginDay_44 n) x1 0 FU 0 σ else gix x1 3 (grd (¬ (rd σ 22 x1) = 0) (if ((σ.1 62) - (σ.1 62) / (rd σ 22 x1) * (rd σ 22 x1)) = 0 then L_Courts_beginDay_84 (L_Courts_beginDay_44 n) x1 1 FU 0 σ else L_Courts_beginDay_84 (L_Courts_beginDay_44 n) x1 0 FU 0 σ)))
set_option maxHeartbeats 4000000 in
set_option maxRecDepth 100000 in
theorem w_Courts_beginDay_44 (C : Cx g p s m args meth c A 4 cX1_beginDay yX1_beginDay.cls) (hr : meth.sig.returnType = none)  {res : Int32 × CS}    : ∀ (n : Nat) (x1 : Int32) (σ : CS) (ta : Nat → Nat), φ0 ≤ ph σ.2.2 → ph σ.2.2 ≤ BB → L_Courts_beginDay_44 n x1 σ = some res → NV g p l e s m args below meth c A 6 161 4 ad Rr φ0 res ta σ [(0, .ref (ad 7)), (1, .int x1)] 44 [] := by
  intro n
  induction n with
  | zero =>
    intro x1 σ ta hφ hφ2 h
    exact absurd (show (none : Option (Int32 × CS)) = some res from h) (by intro h9; cases h9)
  | succ n ih =>
    intro x1 σ ta hφ hφ2 h
    rw [L_Courts_beginDay_44] at h
    refine nw_iload_n C dX1_beginDay_44 rfl 1 rfl ?_
    refine nw_aload_n C dX1_beginDay_45 rfl 0 rfl ?_
    refine nw_get (v := .ref (ad 49)) C in_X1 7 cl_Courts rfl 8 (by decide) tw_387 rfl rfl dX1_beginDay_46 ?_
    refine nw_alenI C 49 (cl_I 22 rfl) dX1_beginDay_49 ?_
    refine nw_st (st' := [.int 3, .int x1]) rfl ?_
    refine nw_icmp_ge (tgt := 161) C dX1_beginDay_50 (by decide) h (fun _ h => ?_) (fun _ h => ?_)
    · exact nc_vret C hr dX1_beginDay_161 hφ hφ2 h
    · refine nw_aload_n C dX1_beginDay_53 rfl 0 rfl ?_
      refine nw_get (v := .ref (ad 49)) C in_X1 7 cl_Courts rfl 8 (by decide) tw_387 rfl rfl dX1_beginDay_54 ?_
      refine nw_iload_n C dX1_beginDay_57 rfl 1 rfl ?_
      refine nw_iald C 49 (cl_I 22 rfl) dX1_beginDay_58 h (fun h => ?_)
      refine nw_if_le (tgt := 80) C dX1_beginDay_59 (by decide) h (fun _ h => ?_) (fun _ h => ?_)
      · refine nw_iconst (v := 0) C dX1_beginDay_80 (by decide) ?_
        refine nw_istore_n (lv' := [(2, .int 0), (0, .ref (ad 7)), (1, .int x1)]) C dX1_beginDay_81 rfl (by decide) rfl ?_
        refine nw_iconst (v := 0) C dX1_beginDay_82 (by decide) ?_
        refine nw_istore_n (lv' := [(3, .int 0), (2, .int 0), (0, .ref (ad 7)), (1, .int x1)]) C dX1_beginDay_83 rfl (by decide) rfl ?_
        exact nw_lv (lv' := [(0, .ref (ad 7)), (1, .int x1), (2, .int 0), (3, .int 0)]) [2, 3, 1, 0] rfl (w_Courts_beginDay_84 C hr x1 0 ih FU 0 _ _ hφ hφ2 h)
      · refine nw_aload_n C dX1_beginDay_62 rfl 0 rfl ?_
        refine nw_get (v := .int (σ.1 62)) C in_X1 7 cl_Courts rfl 11 (by decide) tw_391 rfl rfl dX1_beginDay_63 ?_
        refine nw_aload_n C dX1_beginDay_66 rfl 0 rfl ?_
        refine nw_get (v := .ref (ad 49)) C in_X1 7 cl_Courts rfl 8 (by decide) tw_387 rfl rfl dX1_beginDay_67 ?_
        refine nw_iload_n C dX1_beginDay_70 rfl 1 rfl ?_
        refine nw_iald C 49 (cl_I 22 rfl) dX1_beginDay_71 h (fun h => ?_)
        refine nw_irem C dX1_beginDay_72 h (fun h => ?_)
        refine nw_if_ne (tgt := 80) C dX1_beginDay_73 (by decide) h (fun _ h => ?_) (fun _ h => ?_)
        · refine nw_iconst (v := 1) C dX1_beginDay_76 (by decide) ?_
          refine nw_goto (tgt := 81) C dX1_beginDay_77 (by decide) ?_
          refine nw_istore_n (lv' := [(2, .int 1), (0, .ref (ad 7)), (1, .int x1)]) C dX1_beginDay_81 rfl (by decide) rfl ?_
          refine nw_iconst (v := 0) C dX1_beginDay_82 (by decide) ?_
          refine nw_istore_n (lv' := [(3, .int 0), (2, .int 1), (0, .ref (ad 7)), (1, .int x1)]) C dX1_beginDay_83 rfl (by decide) rfl ?_
          exact nw_lv (lv' := [(0, .ref (ad 7)), (1, .int x1), (2, .int 1), (3, .int 0)]) [2, 3, 1, 0] rfl (w_Courts_beginDay_84 C hr x1 1 ih FU 0 _ _ hφ hφ2 h)
        · refine nw_iconst (v := 0) C dX1_beginDay_80 (by decide) ?_
          refine nw_istore_n (lv' := [(2, .int 0), (0, .ref (ad 7)), (1, .int x1)]) C dX1_beginDay_81 rfl (by decide) rfl ?_
          refine nw_iconst (v := 0) C dX1_beginDay_82 (by decide) ?_
          refine nw_istore_n (lv' := [(3, .int 0), (2, .int 0), (0, .ref (ad 7)), (1, .int x1)]) C dX1_beginDay_83 rfl (by decide) rfl ?_
          exact nw_lv (lv' := [(0, .ref (ad 7)), (1, .int x1), (2, .int 0), (3, .int 0)]) [2, 3, 1, 0] rfl (w_Courts_beginDay_84 C hr x1 0 ih FU 0 _ _ hφ hφ2 h)
def B_Courts_beginDay_38    (σ : CS) : Option (Int32 × CS) := bnd (f_Courts_readRules σ) (fun _ σ39 => L_Courts_beginDay_44 FU 0 σ39)
set_option maxHeartbeats 4000000 in
set_option maxRecDepth 100000 in
theorem w_Courts_beginDay_38 (C : Cx g p s m args meth c A 4 cX1_beginDay yX1_beginDay.cls) (hr : meth.sig.returnType = none)  {res : Int32 × CS}     (σ : CS) (ta : Nat → Nat) (hφ : φ0 ≤ ph σ.2.2) (hφ2 : ph σ.2.2 ≤ BB) (h : B_Courts_beginDay_38 σ = some res) : NV g p l e s m args below meth c A 6 161 4 ad Rr φ0 res ta σ [(0, .ref (ad 7))] 38 [] := by
  unfold B_Courts_beginDay_38 at h
  refine nw_aload_n C dX1_beginDay_38 rfl 0 rfl ?_
  refine nc_callVV (q0 := 7) (As := []) (rest := []) C h (fun _ _ e => c_Courts_readRules e hφ2) tw_774 kv_X1_readRules cl_Courts rfl ⟨Nat.le_of_ble_eq_true rfl, Nat.le_of_ble_eq_true rfl⟩ rfl dX1_beginDay_39 rfl (Nat.le_of_ble_eq_true rfl) hφ hφ2 (fun r39 σ39 ta h hφ hφ2 => ?_)
  refine nw_iconst (v := 0) C dX1_beginDay_42 (by decide) ?_
  refine nw_istore_n (lv' := [(1, .int 0), (0, .ref (ad 7))]) C dX1_beginDay_43 rfl (by decide) rfl ?_
  exact nw_lv (lv' := [(0, .ref (ad 7)), (1, .int 0)]) [1, 0] rfl (w_Courts_beginDay_44 C hr FU 0 _ _ hφ hφ2 h)
def f_Courts_beginDay  (σ : CS) : Option (Int32 × CS) := if (σ.1 60) ≤ ((σ.1 62) + 1) then B_Courts_beginDay_38 (sF σ 62 ((σ.1 62) + 1)) else bnd (f_Table_size 3 (sF σ 62 ((σ.1 62) + 1))) (fun r28 σ28 => if r28 = (σ28.1 61) then L_Courts_beginDay_44 FU 0 σ28 else B_Courts_beginDay_38 σ28)
set_option maxHeartbeats 4000000 in
set_option maxRecDepth 100000 in
theorem c_Courts_beginDay {l : Launch} {g : EG} {ad ta : Nat → Nat} {Rr : va_W} {σ σ' : CS} {r : Int32}   (h : f_Courts_beginDay σ = some (r, σ')) (hφ2 : ph σ.2.2 ≤ BB) : CtV l g yX1_beginDay (.code yX1_beginDay cX1_beginDay 4 none) 6 161 ad ta Rr σ [.ref (ad 7)] r σ' := by
  refine Ct.of rfl (by decide) (Nat.le_of_ble_eq_true rfl) ?_
  intro p e s m args below meth c A C hr
  have hφ : ph σ.2.2 ≤ ph σ.2.2 := Nat.le_refl _
  refine nw_zero (ph σ.2.2) ?_
  show NV g p l e s m args below meth c A 6 161 4 ad Rr (ph σ.2.2) (r, σ') ta σ [(0, .ref (ad 7))] 0 []
  unfold f_Courts_beginDay at h
  refine nw_aload_n C dX1_beginDay_0 rfl 0 rfl ?_
  refine nw_dup C dX1_beginDay_1 rfl ?_
  refine nw_get (v := .int (σ.1 62)) C in_X1 7 cl_Courts rfl 11 (by decide) tw_391 rfl rfl dX1_beginDay_2 ?_
  refine nw_iconst (v := 1) C dX1_beginDay_5 (by decide) ?_
  refine nw_iadd C dX1_beginDay_6 ?_
  refine nw_put (ty := .int) C in_X1 7 cl_Courts rfl 11 (by decide) tyX1 tyX1_ok nmX1 tw_391 rfl rfl (by decide +kernel) rfl rfl (Nat.le_of_ble_eq_true rfl) dX1_beginDay_7 cs_Courts_today ?_
  refine nw_aload_n C dX1_beginDay_10 rfl 0 rfl ?_
  refine nw_get (v := .int ((σ.1 62) + 1)) C in_X1 7 cl_Courts rfl 11 (by decide) tw_391 rfl rfl dX1_beginDay_11 ?_
  refine nw_aload_n C dX1_beginDay_14 rfl 0 rfl ?_
  refine nw_get (v := .int (σ.1 60)) C in_X1 7 cl_Courts rfl 9 (by decide) tw_388 rfl rfl dX1_beginDay_15 ?_
  refine nw_icmp_ge (tgt := 38) C dX1_beginDay_18 (by decide) h (fun _ h => ?_) (fun _ h => ?_)
  · exact nw_lv (lv' := [(0, .ref (ad 7))]) [0] rfl (w_Courts_beginDay_38 C hr _ _ hφ hφ2 h)
  · refine nw_aload_n C dX1_beginDay_21 rfl 0 rfl ?_
    refine nw_get (v := .ref (ad 3)) C in_X1 7 cl_Courts rfl 4 (by decide) tw_383 rfl rfl dX1_beginDay_22 ?_
    refine nw_get (v := .ref (ad 14)) C in_X3 3 cl_Laws rfl 0 (by decide) tw_277 rfl rfl dX1_beginDay_25 ?_
    refine nc_callVI (q0 := 14) (As := []) (rest := []) C h (fun _ _ e => c_Table_size 3 (by decide) e hφ2) tw_773 kv_X9_size (cl_T 3 (by decide)) rfl ⟨Nat.le_of_ble_eq_true rfl, Nat.le_of_ble_eq_true rfl⟩ rfl dX1_beginDay_28 rfl (Nat.le_of_ble_eq_true rfl) hφ hφ2 (fun r28 σ28 ta h hφ hφ2 => ?_)
    refine nw_aload_n C dX1_beginDay_31 rfl 0 rfl ?_
    refine nw_get (v := .int (σ28.1 61)) C in_X1 7 cl_Courts rfl 10 (by decide) tw_389 rfl rfl dX1_beginDay_32 ?_
    refine nw_icmp_eq (tgt := 42) C dX1_beginDay_35 (by decide) h (fun _ h => ?_) (fun _ h => ?_)
    · refine nw_iconst (v := 0) C dX1_beginDay_42 (by decide) ?_
      refine nw_istore_n (lv' := [(1, .int 0), (0, .ref (ad 7))]) C dX1_beginDay_43 rfl (by decide) rfl ?_
      exact nw_lv (lv' := [(0, .ref (ad 7)), (1, .int 0)]) [1, 0] rfl (w_Courts_beginDay_44 C hr FU 0 _ _ hφ hφ2 h)
    · exact nw_lv (lv' := [(0, .ref (ad 7))]) [0] rfl (w_Courts_beginDay_38 C hr _ _ hφ hφ2 h)
theorem dX2_addMark_0 : decode cX2_addMark 0 = .ok (.iconst 0, 1) := by decide +kernel
theorem dX2_addMark_1 : decode cX2_addMark 1 = .ok (.istore 4, 2) := by decide +kernel
theorem dX2_addMark_3 : decode cX2_addMark 3 = .ok (.iconst 0, 1) := by decide +kernel
theorem dX2_addMark_4 : decode cX2_addMark 4 = .ok (.istore 5, 2) := by decide +kernel
theorem dX2_addMark_6 : decode cX2_addMark 6 = .ok (.iload 5, 2) := by decide +kernel
theorem dX2_addMark_8 : decode cX2_addMark 8 = .ok (.aload_n 0, 1) := by decide +kernel
theorem dX2_addMark_9 : decode cX2_addMark 9 = .ok (.getfield 16, 3) := by decide +kernel
theorem dX2_addMark_12 : decode cX2_addMark 12 = .ok (.invokevirtual 27, 3) := by decide +kernel
theorem dX2_addMark_15 : decode cX2_addMark 15 = .ok (.if_icmp .ge 26, 3) := by decide +kernel
theorem dX2_addMark_18 : decode cX2_addMark 18 = .ok (.aload_n 0, 1) := by decide +kernel
theorem dX2_addMark_19 : decode cX2_addMark 19 = .ok (.getfield 16, 3) := by decide +kernel
theorem dX2_addMark_22 : decode cX2_addMark 22 = .ok (.iload 5, 2) := by decide +kernel
theorem dX2_addMark_24 : decode cX2_addMark 24 = .ok (.iconst 0, 1) := by decide +kernel
theorem dX2_addMark_25 : decode cX2_addMark 25 = .ok (.invokevirtual 31, 3) := by decide +kernel
theorem dX2_addMark_28 : decode cX2_addMark 28 = .ok (.iload_n 1, 1) := by decide +kernel
theorem dX2_addMark_29 : decode cX2_addMark 29 = .ok (.if_icmp .ne 6, 3) := by decide +kernel
theorem dX2_addMark_32 : decode cX2_addMark 32 = .ok (.iinc 4 1, 3) := by decide +kernel
theorem dX2_addMark_35 : decode cX2_addMark 35 = .ok (.iinc 5 1, 3) := by decide +kernel
theorem dX2_addMark_38 : decode cX2_addMark 38 = .ok (.goto (-32), 3) := by decide +kernel
theorem dX2_addMark_41 : decode cX2_addMark 41 = .ok (.iload 4, 2) := by decide +kernel
theorem dX2_addMark_43 : decode cX2_addMark 43 = .ok (.iconst 4, 1) := by decide +kernel
theorem dX2_addMark_44 : decode cX2_addMark 44 = .ok (.if_icmp .lt 5, 3) := by decide +kernel
theorem dX2_addMark_47 : decode cX2_addMark 47 = .ok (.iconst (-1), 1) := by decide +kernel
theorem dX2_addMark_48 : decode cX2_addMark 48 = .ok (.ireturn, 1) := by decide +kernel
theorem dX2_addMark_49 : decode cX2_addMark 49 = .ok (.aload_n 0, 1) := by decide +kernel
theorem dX2_addMark_50 : decode cX2_addMark 50 = .ok (.getfield 16, 3) := by decide +kernel
theorem dX2_addMark_53 : decode cX2_addMark 53 = .ok (.invokevirtual 35, 3) := by decide +kernel
theorem dX2_addMark_56 : decode cX2_addMark 56 = .ok (.istore 5, 2) := by decide +kernel
theorem dX2_addMark_58 : decode cX2_addMark 58 = .ok (.aload_n 0, 1) := by decide +kernel
theorem dX2_addMark_59 : decode cX2_addMark 59 = .ok (.getfield 16, 3) := by decide +kernel
theorem dX2_addMark_62 : decode cX2_addMark 62 = .ok (.iload 5, 2) := by decide +kernel
theorem dX2_addMark_64 : decode cX2_addMark 64 = .ok (.iconst 0, 1) := by decide +kernel
theorem dX2_addMark_65 : decode cX2_addMark 65 = .ok (.iload_n 1, 1) := by decide +kernel
theorem dX2_addMark_66 : decode cX2_addMark 66 = .ok (.invokevirtual 38, 3) := by decide +kernel
theorem dX2_addMark_69 : decode cX2_addMark 69 = .ok (.aload_n 0, 1) := by decide +kernel
theorem dX2_addMark_70 : decode cX2_addMark 70 = .ok (.getfield 16, 3) := by decide +kernel
theorem dX2_addMark_73 : decode cX2_addMark 73 = .ok (.iload 5, 2) := by decide +kernel
theorem dX2_addMark_75 : decode cX2_addMark 75 = .ok (.iconst 1, 1) := by decide +kernel
theorem dX2_addMark_76 : decode cX2_addMark 76 = .ok (.iload_n 2, 1) := by decide +kernel
theorem dX2_addMark_77 : decode cX2_addMark 77 = .ok (.invokevirtual 38, 3) := by decide +kernel
theorem dX2_addMark_80 : decode cX2_addMark 80 = .ok (.aload_n 0, 1) := by decide +kernel
theorem dX2_addMark_81 : decode cX2_addMark 81 = .ok (.getfield 16, 3) := by decide +kernel
theorem dX2_addMark_84 : decode cX2_addMark 84 = .ok (.iload 5, 2) := by decide +kernel
theorem dX2_addMark_86 : decode cX2_addMark 86 = .ok (.iconst 2, 1) := by decide +kernel
theorem dX2_addMark_87 : decode cX2_addMark 87 = .ok (.iload_n 3, 1) := by decide +kernel
theorem dX2_addMark_88 : decode cX2_addMark 88 = .ok (.invokevirtual 38, 3) := by decide +kernel
theorem dX2_addMark_91 : decode cX2_addMark 91 = .ok (.iload 5, 2) := by decide +kernel
theorem dX2_addMark_93 : decode cX2_addMark 93 = .ok (.ireturn, 1) := by decide +kernel
def L_Ground_addMark_6 (k41 : Int32 → Int32 → Int32 → Int32 → CS → Option (Int32 × CS)) (x1 : Int32) (x2 : Int32) (x3 : Int32) : Nat → Int32 → Int32 → CS → Option (Int32 × CS)
  | 0, _, _, _ => none
  | n + 1, x4, x5, σ => bnd (f_Table_size 1 σ) (fun r12 σ12 => if r12 ≤ x5 then k41 x1 x2 x3 x4 σ12 else bnd (f_Table_get 1 x5 0 σ12) (fun r25 σ25 => if r25 = x1 then (L_Ground_addMark_6 k41 x1 x2 x3 n) (x4 + 1) (x5 + 1) σ25 else (L_Ground_addMark_6 k41 x1 x2 x3 n) x4 (x5 + 1) σ25))
set_option maxHeartbeats 4000000 in
set_option maxRecDepth 100000 in
theorem w_Ground_addMark_6 (C : Cx g p s m args meth c A 6 cX2_addMark yX2_addMark.cls) (hr : meth.sig.returnType = (some .int))  {res : Int32 × CS}  (x1 : Int32) (x2 : Int32) (x3 : Int32) {k41 : Int32 → Int32 → Int32 → Int32 → CS → Option (Int32 × CS)} (hk41 : ∀ (x1 : Int32) (x2 : Int32) (x3 : Int32) (x4 : Int32) (σ : CS) (ta : Nat → Nat), φ0 ≤ ph σ.2.2 → ph σ.2.2 ≤ BB → k41 x1 x2 x3 x4 σ = some res → NI g p l e s m args below meth c A 5 222 6 ad Rr φ0 res ta σ [(0, .ref (ad 1)), (1, .int x1), (2, .int x2), (3, .int x3), (4, .int x4)] 41 []) : ∀ (n : Nat) (x4 : Int32) (x5 : Int32) (σ : CS) (ta : Nat → Nat), φ0 ≤ ph σ.2.2 → ph σ.2.2 ≤ BB → L_Ground_addMark_6 k41 x1 x2 x3 n x4 x5 σ = some res → NI g p l e s m args below meth c A 5 222 6 ad Rr φ0 res ta σ [(0, .ref (ad 1)), (1, .int x1), (2, .int x2), (3, .int x3), (4, .int x4), (5, .int x5)] 6 [] := by
  intro n
  induction n with
  | zero =>
    intro x4 x5 σ ta hφ hφ2 h
    exact absurd (show (none : Option (Int32 × CS)) = some res from h) (by intro h9; cases h9)
  | succ n ih =>
    intro x4 x5 σ ta hφ hφ2 h
    rw [L_Ground_addMark_6] at h
    refine nw_iload C dX2_addMark_6 5 rfl ?_
    refine nw_aload_n C dX2_addMark_8 rfl 0 rfl ?_
    refine nw_get (v := .ref (ad 12)) C in_X2 1 cl_Ground rfl 0 (by decide) tw_189 rfl rfl dX2_addMark_9 ?_
    refine nc_callVI (q0 := 12) (As := []) (rest := [.int x5]) C h (fun _ _ e => c_Table_size 1 (by decide) e hφ2) tw_840 kv_X9_size (cl_T 1 (by decide)) rfl ⟨Nat.le_of_ble_eq_true rfl, Nat.le_of_ble_eq_true rfl⟩ rfl dX2_addMark_12 rfl (Nat.le_of_ble_eq_true rfl) hφ hφ2 (fun r12 σ12 ta h hφ hφ2 => ?_)
    refine nw_icmp_ge (tgt := 41) C dX2_addMark_15 (by decide) h (fun _ h => ?_) (fun _ h => ?_)
    · exact nw_lv (lv' := [(0, .ref (ad 1)), (1, .int x1), (2, .int x2), (3, .int x3), (4, .int x4)]) [0, 1, 2, 3, 4] rfl (hk41 x1 x2 x3 x4 _ _ hφ hφ2 h)
    · refine nw_aload_n C dX2_addMark_18 rfl 0 rfl ?_
      refine nw_get (v := .ref (ad 12)) C in_X2 1 cl_Ground rfl 0 (by decide) tw_189 rfl rfl dX2_addMark_19 ?_
      refine nw_iload C dX2_addMark_22 5 rfl ?_
      refine nw_iconst (v := 0) C dX2_addMark_24 (by decide) ?_
      refine nc_callVI (q0 := 12) (As := [.int x5, .int 0]) (rest := []) C h (fun _ _ e => c_Table_get 1 (by decide) e hφ2) tw_841 kv_X9_get (cl_T 1 (by decide)) rfl ⟨Nat.le_of_ble_eq_true rfl, Nat.le_of_ble_eq_true rfl⟩ rfl dX2_addMark_25 rfl (Nat.le_of_ble_eq_true rfl) hφ hφ2 (fun r25 σ25 ta h hφ hφ2 => ?_)
      refine nw_iload_n C dX2_addMark_28 rfl 1 rfl ?_
      refine nw_icmp_ne (tgt := 35) C dX2_addMark_29 (by decide) h (fun _ h => ?_) (fun _ h => ?_)
      · refine nw_iinc (lv' := [(4, .int (x4 + 1)), (0, .ref (ad 1)), (1, .int x1), (2, .int x2), (3, .int x3), (5, .int x5)]) C (x4 + 1) dX2_addMark_32 4 rfl rfl (by decide) rfl ?_
        refine nw_iinc (lv' := [(5, .int (x5 + 1)), (4, .int (x4 + 1)), (0, .ref (ad 1)), (1, .int x1), (2, .int x2), (3, .int x3)]) C (x5 + 1) dX2_addMark_35 5 rfl rfl (by decide) rfl ?_
        refine nw_goto (tgt := 6) C dX2_addMark_38 (by decide) ?_
        exact nw_lv (lv' := [(0, .ref (ad 1)), (1, .int x1), (2, .int x2), (3, .int x3), (4, .int (x4 + 1)), (5, .int (x5 + 1))]) [2, 3, 4, 5, 1, 0] rfl (ih (x4 + 1) (x5 + 1) _ _ hφ hφ2 h)
      · refine nw_iinc (lv' := [(5, .int (x5 + 1)), (0, .ref (ad 1)), (1, .int x1), (2, .int x2), (3, .int x3), (4, .int x4)]) C (x5 + 1) dX2_addMark_35 5 rfl rfl (by decide) rfl ?_
        refine nw_goto (tgt := 6) C dX2_addMark_38 (by decide) ?_
        exact nw_lv (lv' := [(0, .ref (ad 1)), (1, .int x1), (2, .int x2), (3, .int x3), (4, .int x4), (5, .int (x5 + 1))]) [1, 2, 3, 4, 5, 0] rfl (ih x4 (x5 + 1) _ _ hφ hφ2 h)
def B_Ground_addMark_41   (x1 : Int32) (x2 : Int32) (x3 : Int32) (x4 : Int32) (σ : CS) : Option (Int32 × CS) := if x4 < 4 then bnd (f_Table_add 1 σ) (fun r53 σ53 => bnd (f_Table_put 1 r53 0 x1 σ53) (fun _ σ66 => bnd (f_Table_put 1 r53 1 x2 σ66) (fun _ σ77 => bnd (f_Table_put 1 r53 2 x3 σ77) (fun _ σ88 => some (r53, σ88))))) else some ((-1), σ)
set_option maxHeartbeats 4000000 in
set_option maxRecDepth 100000 in
theorem w_Ground_addMark_41 (C : Cx g p s m args meth c A 6 cX2_addMark yX2_addMark.cls) (hr : meth.sig.returnType = (some .int))  {res : Int32 × CS}   (x1 : Int32) (x2 : Int32) (x3 : Int32) (x4 : Int32)  (σ : CS) (ta : Nat → Nat) (hφ : φ0 ≤ ph σ.2.2) (hφ2 : ph σ.2.2 ≤ BB) (h : B_Ground_addMark_41 x1 x2 x3 x4 σ = some res) : NI g p l e s m args below meth c A 5 222 6 ad Rr φ0 res ta σ [(0, .ref (ad 1)), (1, .int x1), (2, .int x2), (3, .int x3), (4, .int x4)] 41 [] := by
  unfold B_Ground_addMark_41 at h
  refine nw_iload C dX2_addMark_41 4 rfl ?_
  refine nw_iconst (v := 4) C dX2_addMark_43 (by decide) ?_
  refine nw_icmp_lt (tgt := 49) C dX2_addMark_44 (by decide) h (fun _ h => ?_) (fun _ h => ?_)
  · refine nw_aload_n C dX2_addMark_49 rfl 0 rfl ?_
    refine nw_get (v := .ref (ad 12)) C in_X2 1 cl_Ground rfl 0 (by decide) tw_189 rfl rfl dX2_addMark_50 ?_
    refine nc_callVI (q0 := 12) (As := []) (rest := []) C h (fun _ _ e => c_Table_add 1 (by decide) e hφ2) tw_927 kv_X9_add (cl_T 1 (by decide)) rfl ⟨Nat.le_of_ble_eq_true rfl, Nat.le_of_ble_eq_true rfl⟩ rfl dX2_addMark_53 rfl (Nat.le_of_ble_eq_true rfl) hφ hφ2 (fun r53 σ53 ta h hφ hφ2 => ?_)
    refine nw_istore (lv' := [(5, .int r53), (0, .ref (ad 1)), (1, .int x1), (2, .int x2), (3, .int x3), (4, .int x4)]) C dX2_addMark_56 (by decide) rfl ?_
    refine nw_aload_n C dX2_addMark_58 rfl 1 rfl ?_
    refine nw_get (v := .ref (ad 12)) C in_X2 1 cl_Ground rfl 0 (by decide) tw_189 rfl rfl dX2_addMark_59 ?_
    refine nw_iload C dX2_addMark_62 0 rfl ?_
    refine nw_iconst (v := 0) C dX2_addMark_64 (by decide) ?_
    refine nw_iload_n C dX2_addMark_65 rfl 2 rfl ?_
    refine nc_callVV (q0 := 12) (As := [.int r53, .int 0, .int x1]) (rest := []) C h (fun _ _ e => c_Table_put 1 (by decide) e hφ2) tw_928 kv_X9_put (cl_T 1 (by decide)) rfl ⟨Nat.le_of_ble_eq_true rfl, Nat.le_of_ble_eq_true rfl⟩ rfl dX2_addMark_66 rfl (Nat.le_of_ble_eq_true rfl) hφ hφ2 (fun r66 σ66 ta h hφ hφ2 => ?_)
    refine nw_aload_n C dX2_addMark_69 rfl 1 rfl ?_
    refine nw_get (v := .ref (ad 12)) C in_X2 1 cl_Ground rfl 0 (by decide) tw_189 rfl rfl dX2_addMark_70 ?_
    refine nw_iload C dX2_addMark_73 0 rfl ?_
    refine nw_iconst (v := 1) C dX2_addMark_75 (by decide) ?_
    refine nw_iload_n C dX2_addMark_76 rfl 3 rfl ?_
    refine nc_callVV (q0 := 12) (As := [.int r53, .int 1, .int x2]) (rest := []) C h (fun _ _ e => c_Table_put 1 (by decide) e hφ2) tw_928 kv_X9_put (cl_T 1 (by decide)) rfl ⟨Nat.le_of_ble_eq_true rfl, Nat.le_of_ble_eq_true rfl⟩ rfl dX2_addMark_77 rfl (Nat.le_of_ble_eq_true rfl) hφ hφ2 (fun r77 σ77 ta h hφ hφ2 => ?_)
    refine nw_aload_n C dX2_addMark_80 rfl 1 rfl ?_
    refine nw_get (v := .ref (ad 12)) C in_X2 1 cl_Ground rfl 0 (by decide) tw_189 rfl rfl dX2_addMark_81 ?_
    refine nw_iload C dX2_addMark_84 0 rfl ?_
    refine nw_iconst (v := 2) C dX2_addMark_86 (by decide) ?_
    refine nw_iload_n C dX2_addMark_87 rfl 4 rfl ?_
    refine nc_callVV (q0 := 12) (As := [.int r53, .int 2, .int x3]) (rest := []) C h (fun _ _ e => c_Table_put 1 (by decide) e hφ2) tw_928 kv_X9_put (cl_T 1 (by decide)) rfl ⟨Nat.le_of_ble_eq_true rfl, Nat.le_of_ble_eq_true rfl⟩ rfl dX2_addMark_88 rfl (Nat.le_of_ble_eq_true rfl) hφ hφ2 (fun r88 σ88 ta h hφ hφ2 => ?_)
    refine nw_iload C dX2_addMark_91 0 rfl ?_
    exact nc_iret C hr dX2_addMark_93 hφ hφ2 h
  · refine nw_iconst (v := (-1)) C dX2_addMark_47 (by decide) ?_
    exact nc_iret C hr dX2_addMark_48 hφ hφ2 h
def f_Ground_addMark (p0 : Int32) (p1 : Int32) (p2 : Int32) (σ : CS) : Option (Int32 × CS) := L_Ground_addMark_6 (B_Ground_addMark_41) p0 p1 p2 FU 0 0 σ
set_option maxHeartbeats 4000000 in
set_option maxRecDepth 100000 in
theorem c_Ground_addMark {l : Launch} {g : EG} {ad ta : Nat → Nat} {Rr : va_W} {σ σ' : CS} {r : Int32} {p0 : Int32} {p1 : Int32} {p2 : Int32}  (h : f_Ground_addMark p0 p1 p2 σ = some (r, σ')) (hφ2 : ph σ.2.2 ≤ BB) : CtI l g yX2_addMark (.code yX2_addMark cX2_addMark 6 (some .int)) 5 222 ad ta Rr σ [.ref (ad 1), .int p0, .int p1, .int p2] r σ' := by
  refine Ct.of rfl (by decide) (Nat.le_of_ble_eq_true rfl) ?_
  intro p e s m args below meth c A C hr
  have hφ : ph σ.2.2 ≤ ph σ.2.2 := Nat.le_refl _
  refine nw_zero (ph σ.2.2) ?_
  show NI g p l e s m args below meth c A 5 222 6 ad Rr (ph σ.2.2) (r, σ') ta σ [(0, .ref (ad 1)), (1, .int p0), (2, .int p1), (3, .int p2)] 0 []
  unfold f_Ground_addMark at h
  refine nw_iconst (v := 0) C dX2_addMark_0 (by decide) ?_
  refine nw_istore (lv' := [(4, .int 0), (0, .ref (ad 1)), (1, .int p0), (2, .int p1), (3, .int p2)]) C dX2_addMark_1 (by decide) rfl ?_
  refine nw_iconst (v := 0) C dX2_addMark_3 (by decide) ?_
  refine nw_istore (lv' := [(5, .int 0), (4, .int 0), (0, .ref (ad 1)), (1, .int p0), (2, .int p1), (3, .int p2)]) C dX2_addMark_4 (by decide) rfl ?_
  exact nw_lv (lv' := [(0, .ref (ad 1)), (1, .int p0), (2, .int p1), (3, .int p2), (4, .int 0), (5, .int 0)]) [2, 3, 4, 5, 1, 0] rfl (w_Ground_addMark_6 C hr p0 p1 p2 (fun x1_ x2_ x3_ x4_ σ_ ta_ hφ_ hφ2_ h_ => w_Ground_addMark_41 C hr x1_ x2_ x3_ x4_ σ_ ta_ hφ_ hφ2_ h_) FU 0 0 _ _ hφ hφ2 h)
end
