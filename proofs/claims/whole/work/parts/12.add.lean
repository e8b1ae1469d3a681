section
variable {g : EG} {p : Program} {l : Launch} {e : Env} {s : State} {m : MethodId} {args : Array Value} {below : List Frame} {meth : Method} {c : Code} {A : Nat → Prop} {ad am ta : Nat → Nat} {Rr : va_W} {φ0 : Nat}
theorem dX9_add_0 : decode cX9_add 0 = .ok (.aload_n 0, 1) := by decide +kernel
theorem dX9_add_1 : decode cX9_add 1 = .ok (.invokevirtual 31, 3) := by decide +kernel
theorem dX9_add_4 : decode cX9_add 4 = .ok (.ifCond .eq 5, 3) := by decide +kernel
theorem dX9_add_7 : decode cX9_add 7 = .ok (.iconst (-1), 1) := by decide +kernel
theorem dX9_add_8 : decode cX9_add 8 = .ok (.ireturn, 1) := by decide +kernel
theorem dX9_add_9 : decode cX9_add 9 = .ok (.aload_n 0, 1) := by decide +kernel
theorem dX9_add_10 : decode cX9_add 10 = .ok (.getfield 28, 3) := by decide +kernel
theorem dX9_add_13 : decode cX9_add 13 = .ok (.iconst 1, 1) := by decide +kernel
theorem dX9_add_14 : decode cX9_add 14 = .ok (.iadd, 1) := by decide +kernel
theorem dX9_add_15 : decode cX9_add 15 = .ok (.aload_n 0, 1) := by decide +kernel
theorem dX9_add_16 : decode cX9_add 16 = .ok (.getfield 9, 3) := by decide +kernel
theorem dX9_add_19 : decode cX9_add 19 = .ok (.imul, 1) := by decide +kernel
theorem dX9_add_20 : decode cX9_add 20 = .ok (.istore_n 1, 1) := by decide +kernel
theorem dX9_add_21 : decode cX9_add 21 = .ok (.iload_n 1, 1) := by decide +kernel
theorem dX9_add_22 : decode cX9_add 22 = .ok (.aload_n 0, 1) := by decide +kernel
theorem dX9_add_23 : decode cX9_add 23 = .ok (.getfield 24, 3) := by decide +kernel
theorem dX9_add_26 : decode cX9_add 26 = .ok (.arraylength, 1) := by decide +kernel
theorem dX9_add_27 : decode cX9_add 27 = .ok (.if_icmp .le 25, 3) := by decide +kernel
theorem dX9_add_30 : decode cX9_add 30 = .ok (.aload_n 0, 1) := by decide +kernel
theorem dX9_add_31 : decode cX9_add 31 = .ok (.aload_n 0, 1) := by decide +kernel
theorem dX9_add_32 : decode cX9_add 32 = .ok (.getfield 24, 3) := by decide +kernel
theorem dX9_add_35 : decode cX9_add 35 = .ok (.iload_n 1, 1) := by decide +kernel
theorem dX9_add_36 : decode cX9_add 36 = .ok (.iconst 2, 1) := by decide +kernel
theorem dX9_add_37 : decode cX9_add 37 = .ok (.aload_n 0, 1) := by decide +kernel
theorem dX9_add_38 : decode cX9_add 38 = .ok (.getfield 24, 3) := by decide +kernel
theorem dX9_add_41 : decode cX9_add 41 = .ok (.arraylength, 1) := by decide +kernel
theorem dX9_add_42 : decode cX9_add 42 = .ok (.imul, 1) := by decide +kernel
theorem dX9_add_43 : decode cX9_add 43 = .ok (.invokestatic 18, 3) := by decide +kernel
theorem dX9_add_46 : decode cX9_add 46 = .ok (.invokestatic 35, 3) := by decide +kernel
theorem dX9_add_49 : decode cX9_add 49 = .ok (.putfield 24, 3) := by decide +kernel
theorem dX9_add_52 : decode cX9_add 52 = .ok (.aload_n 0, 1) := by decide +kernel
theorem dX9_add_53 : decode cX9_add 53 = .ok (.dup, 1) := by decide +kernel
theorem dX9_add_54 : decode cX9_add 54 = .ok (.getfield 28, 3) := by decide +kernel
theorem dX9_add_57 : decode cX9_add 57 = .ok (.iconst 1, 1) := by decide +kernel
theorem dX9_add_58 : decode cX9_add 58 = .ok (.iadd, 1) := by decide +kernel
theorem dX9_add_59 : decode cX9_add 59 = .ok (.putfield 28, 3) := by decide +kernel
theorem dX9_add_62 : decode cX9_add 62 = .ok (.iconst 0, 1) := by decide +kernel
theorem dX9_add_63 : decode cX9_add 63 = .ok (.istore_n 2, 1) := by decide +kernel
theorem dX9_add_64 : decode cX9_add 64 = .ok (.iload_n 2, 1) := by decide +kernel
theorem dX9_add_65 : decode cX9_add 65 = .ok (.aload_n 0, 1) := by decide +kernel
theorem dX9_add_66 : decode cX9_add 66 = .ok (.getfield 9, 3) := by decide +kernel
theorem dX9_add_69 : decode cX9_add 69 = .ok (.if_icmp .ge 21, 3) := by decide +kernel
theorem dX9_add_72 : decode cX9_add 72 = .ok (.aload_n 0, 1) := by decide +kernel
theorem dX9_add_73 : decode cX9_add 73 = .ok (.aload_n 0, 1) := by decide +kernel
theorem dX9_add_74 : decode cX9_add 74 = .ok (.getfield 28, 3) := by decide +kernel
theorem dX9_add_77 : decode cX9_add 77 = .ok (.iconst 1, 1) := by decide +kernel
theorem dX9_add_78 : decode cX9_add 78 = .ok (.isub, 1) := by decide +kernel
theorem dX9_add_79 : decode cX9_add 79 = .ok (.iload_n 2, 1) := by decide +kernel
theorem dX9_add_80 : decode cX9_add 80 = .ok (.iconst (-1), 1) := by decide +kernel
theorem dX9_add_81 : decode cX9_add 81 = .ok (.invokevirtual 41, 3) := by decide +kernel
theorem dX9_add_84 : decode cX9_add 84 = .ok (.iinc 2 1, 3) := by decide +kernel
theorem dX9_add_87 : decode cX9_add 87 = .ok (.goto (-23), 3) := by decide +kernel
theorem dX9_add_90 : decode cX9_add 90 = .ok (.aload_n 0, 1) := by decide +kernel
theorem dX9_add_91 : decode cX9_add 91 = .ok (.getfield 28, 3) := by decide +kernel
theorem dX9_add_94 : decode cX9_add 94 = .ok (.iconst 1, 1) := by decide +kernel
theorem dX9_add_95 : decode cX9_add 95 = .ok (.isub, 1) := by decide +kernel
theorem dX9_add_96 : decode cX9_add 96 = .ok (.ireturn, 1) := by decide +kernel
def L_Table_add_64 (t : Nat)   : Nat → Int32 → CS → Option (Int32 × CS)
  | 0, _, _ => none
  | n + 1, x2, σ => if (σ.1 (3 * t)) ≤ x2 then some (((σ.1 (3 * t + 2)) - 1), σ) else bnd (f_Table_put t ((σ.1 (3 * t + 2)) - 1) x2 (-1) σ) (fun _ σ81 => (L_Table_add_64 t n) (x2 + 1) σ81)
set_option maxHeartbeats 4000000 in
set_option maxRecDepth 100000 in
theorem w_Table_add_64 (C : Cx g p s m args meth c A 3 cX9_add yX9_add.cls) (hr : meth.sig.returnType = (some .int)) {t : Nat} (ht : t < 16) {res : Int32 × CS}    : ∀ (n : Nat) (x2 : Int32) (σ : CS) (ta : Nat → Nat), φ0 ≤ ph σ.2.2 → ph σ.2.2 ≤ BB → L_Table_add_64 t n x2 σ = some res → NI g p l e s m args below meth c A 4 200 3 ad Rr φ0 res ta σ [(0, .ref (ad (11 + t))), (2, .int x2)] 64 [] := by
  intro n
  induction n with
  | zero =>
    intro x2 σ ta hφ hφ2 h
    exact absurd (show (none : Option (Int32 × CS)) = some res from h) (by intro h9; cases h9)
  | succ n ih =>
    intro x2 σ ta hφ hφ2 h
    rw [L_Table_add_64] at h
    refine nw_iload_n C dX9_add_64 rfl 1 rfl ?_
    refine nw_aload_n C dX9_add_65 rfl 0 rfl ?_
    refine nw_get (v := .int (σ.1 (3 * t))) C in_X9 (11 + t) (cl_T t ht) rfl 0 (by decide) tw_167 rfl rfl dX9_add_66 ?_
    refine nw_icmp_ge (tgt := 90) C dX9_add_69 (by decide) h (fun _ h => ?_) (fun _ h => ?_)
    · refine nw_aload_n C dX9_add_90 rfl 0 rfl ?_
      refine nw_get (v := .int (σ.1 (3 * t + 2))) C in_X9 (11 + t) (cl_T t ht) rfl 3 (by decide) tw_170 rfl rfl dX9_add_91 ?_
      refine nw_iconst (v := 1) C dX9_add_94 (by decide) ?_
      refine nw_isub C dX9_add_95 ?_
      exact nc_iret C hr dX9_add_96 hφ hφ2 h
    · refine nw_aload_n C dX9_add_72 rfl 0 rfl ?_
      refine nw_aload_n C dX9_add_73 rfl 0 rfl ?_
      refine nw_get (v := .int (σ.1 (3 * t + 2))) C in_X9 (11 + t) (cl_T t ht) rfl 3 (by decide) tw_170 rfl rfl dX9_add_74 ?_
      refine nw_iconst (v := 1) C dX9_add_77 (by decide) ?_
      refine nw_isub C dX9_add_78 ?_
      refine nw_iload_n C dX9_add_79 rfl 1 rfl ?_
      refine nw_iconst (v := (-1)) C dX9_add_80 (by decide) ?_
      refine nc_callVV (q0 := 11 + t) (As := [.int ((σ.1 (3 * t + 2)) - 1), .int x2, .int (-1)]) (rest := []) C h (fun _ _ e => c_Table_put t ht e hφ2) tw_372 kv_X9_put (cl_T t ht) rfl ⟨Nat.le_of_ble_eq_true rfl, Nat.le_of_ble_eq_true rfl⟩ rfl dX9_add_81 rfl (Nat.le_of_ble_eq_true rfl) hφ hφ2 (fun r81 σ81 ta h hφ hφ2 => ?_)
      refine nw_iinc (lv' := [(2, .int (x2 + 1)), (0, .ref (ad (11 + t)))]) C (x2 + 1) dX9_add_84 1 rfl rfl (by decide) rfl ?_
      refine nw_goto (tgt := 64) C dX9_add_87 (by decide) ?_
      exact nw_lv (lv' := [(0, .ref (ad (11 + t))), (2, .int (x2 + 1))]) [1, 0] rfl (ih (x2 + 1) _ _ hφ hφ2 h)
def B_Table_add_52 (t : Nat)    (σ : CS) : Option (Int32 × CS) := L_Table_add_64 t FU 0 (sF σ (3 * t + 2) ((σ.1 (3 * t + 2)) + 1))
set_option maxHeartbeats 4000000 in
set_option maxRecDepth 100000 in
theorem w_Table_add_52 (C : Cx g p s m args meth c A 3 cX9_add yX9_add.cls) (hr : meth.sig.returnType = (some .int)) {t : Nat} (ht : t < 16) {res : Int32 × CS}     (σ : CS) (ta : Nat → Nat) (hφ : φ0 ≤ ph σ.2.2) (hφ2 : ph σ.2.2 ≤ BB) (h : B_Table_add_52 t σ = some res) : NI g p l e s m args below meth c A 4 200 3 ad Rr φ0 res ta σ [(0, .ref (ad (11 + t)))] 52 [] := by
  unfold B_Table_add_52 at h
  refine nw_aload_n C dX9_add_52 rfl 0 rfl ?_
  refine nw_dup C dX9_add_53 rfl ?_
  refine nw_get (v := .int (σ.1 (3 * t + 2))) C in_X9 (11 + t) (cl_T t ht) rfl 3 (by decide) tw_170 rfl rfl dX9_add_54 ?_
  refine nw_iconst (v := 1) C dX9_add_57 (by decide) ?_
  refine nw_iadd C dX9_add_58 ?_
  refine nw_put (ty := .int) C in_X9 (11 + t) (cl_T t ht) rfl 3 (by decide) tyX9 tyX9_ok nmX9 tw_170 rfl rfl (by decide +kernel) rfl rfl (Nat.le_of_ble_eq_true rfl) dX9_add_59 (cs_T t ht) ?_
  refine nw_iconst (v := 0) C dX9_add_62 (by decide) ?_
  refine nw_istore_n (lv' := [(2, .int 0), (0, .ref (ad (11 + t)))]) C dX9_add_63 rfl (by decide) rfl ?_
  exact nw_lv (lv' := [(0, .ref (ad (11 + t))), (2, .int 0)]) [1, 0] rfl (w_Table_add_64 C hr ht FU 0 _ _ hφ hφ2 h)
def f_Table_add (t : Nat)  (σ : CS) : Option (Int32 × CS) := bnd (f_Table_isFull t σ) (fun r1 σ1 => if r1 = 0 then if (((σ1.1 (3 * t + 2)) + 1) * (σ1.1 (3 * t))) ≤ (nI (σ1.2.2 t)) then B_Table_add_52 t σ1 else grd (grw σ1 t (if (((σ1.1 (3 * t + 2)) + 1) * (σ1.1 (3 * t))) < (2 * (nI (σ1.2.2 t))) then (2 * (nI (σ1.2.2 t))) else (((σ1.1 (3 * t + 2)) + 1) * (σ1.1 (3 * t))))) (B_Table_add_52 t (gro σ1 t (if (((σ1.1 (3 * t + 2)) + 1) * (σ1.1 (3 * t))) < (2 * (nI (σ1.2.2 t))) then (2 * (nI (σ1.2.2 t))) else (((σ1.1 (3 * t + 2)) + 1) * (σ1.1 (3 * t)))))) else some ((-1), σ1))
set_option maxHeartbeats 4000000 in
set_option maxRecDepth 100000 in
theorem c_Table_add {l : Launch} {g : EG} {ad ta : Nat → Nat} {Rr : va_W} {σ σ' : CS} {r : Int32}  (t : Nat) (ht : t < 16) (h : f_Table_add t σ = some (r, σ')) (hφ2 : ph σ.2.2 ≤ BB) : CtI l g yX9_add (.code yX9_add cX9_add 3 (some .int)) 4 200 ad ta Rr σ [.ref (ad (11 + t))] r σ' := by
  refine Ct.of rfl (by decide) (Nat.le_of_ble_eq_true rfl) ?_
  intro p e s m args below meth c A C hr
  have hφ : ph σ.2.2 ≤ ph σ.2.2 := Nat.le_refl _
  refine nw_zero (ph σ.2.2) ?_
  show NI g p l e s m args below meth c A 4 200 3 ad Rr (ph σ.2.2) (r, σ') ta σ [(0, .ref (ad (11 + t)))] 0 []
  unfold f_Table_add at h
  refine nw_aload_n C dX9_add_0 rfl 0 rfl ?_
  refine nc_callVI (q0 := 11 + t) (As := []) (rest := []) C h (fun _ _ e => c_Table_isFull t ht e hφ2) tw_352 kv_X9_isFull (cl_T t ht) rfl ⟨Nat.le_of_ble_eq_true rfl, Nat.le_of_ble_eq_true rfl⟩ rfl dX9_add_1 rfl (Nat.le_of_ble_eq_true rfl) hφ hφ2 (fun r1 σ1 ta h hφ hφ2 => ?_)
  refine nw_if_eq (tgt := 9) C dX9_add_4 (by decide) h (fun _ h => ?_) (fun _ h => ?_)
  · refine nw_aload_n C dX9_add_9 rfl 0 rfl ?_
    refine nw_get (v := .int (σ1.1 (3 * t + 2))) C in_X9 (11 + t) (cl_T t ht) rfl 3 (by decide) tw_170 rfl rfl dX9_add_10 ?_
    refine nw_iconst (v := 1) C dX9_add_13 (by decide) ?_
    refine nw_iadd C dX9_add_14 ?_
    refine nw_aload_n C dX9_add_15 rfl 0 rfl ?_
    refine nw_get (v := .int (σ1.1 (3 * t))) C in_X9 (11 + t) (cl_T t ht) rfl 0 (by decide) tw_167 rfl rfl dX9_add_16 ?_
    refine nw_imul C dX9_add_19 ?_
    refine nw_istore_n (lv' := [(1, .int (((σ1.1 (3 * t + 2)) + 1) * (σ1.1 (3 * t)))), (0, .ref (ad (11 + t)))]) C dX9_add_20 rfl (by decide) rfl ?_
    refine nw_iload_n C dX9_add_21 rfl 0 rfl ?_
    refine nw_aload_n C dX9_add_22 rfl 1 rfl ?_
    refine nw_get (v := .ref (ta t)) C in_X9 (11 + t) (cl_T t ht) rfl 2 (by decide) tw_169 rfl rfl dX9_add_23 ?_
    refine nw_alenI C (27 + t) (cl_TA t ht) dX9_add_26 ?_
    refine nw_icmp_le (tgt := 52) C dX9_add_27 (by decide) h (fun _ h => ?_) (fun _ h => ?_)
    · exact nw_lv (lv' := [(0, .ref (ad (11 + t)))]) [1] rfl (w_Table_add_52 C hr ht _ _ hφ hφ2 h)
    · refine nw_aload_n C dX9_add_30 rfl 1 rfl ?_
      refine nw_aload_n C dX9_add_31 rfl 1 rfl ?_
      refine nw_get (v := .ref (ta t)) C in_X9 (11 + t) (cl_T t ht) rfl 2 (by decide) tw_169 rfl rfl dX9_add_32 ?_
      refine nw_iload_n C dX9_add_35 rfl 0 rfl ?_
      refine nw_iconst (v := 2) C dX9_add_36 (by decide) ?_
      refine nw_aload_n C dX9_add_37 rfl 1 rfl ?_
      refine nw_get (v := .ref (ta t)) C in_X9 (11 + t) (cl_T t ht) rfl 2 (by decide) tw_169 rfl rfl dX9_add_38 ?_
      refine nw_alenI C (27 + t) (cl_TA t ht) dX9_add_41 ?_
      refine nw_imul C dX9_add_42 ?_
      refine nw_mmax C tw_164 tw_165 tw_125 tm_max (Nat.le_of_ble_eq_true rfl) (Nat.le_of_ble_eq_true rfl) (Nat.sub_le_sub_right hφ2 _) (Nat.mul_le_mul_left 2 (Nat.sub_le_sub_right hφ2 _)) dX9_add_43 ?_
      refine nc_grow C ht h tw_356 tw_169 ⟨Nat.le_of_ble_eq_true rfl, Nat.le_of_ble_eq_true rfl⟩ dX9_add_46 dX9_add_49 hφ hφ2 (fun ta h hφ hφ2 => ?_)
      exact nw_lv (lv' := [(0, .ref (ad (11 + t)))]) [1] rfl (w_Table_add_52 C hr ht _ _ hφ hφ2 h)
  · refine nw_iconst (v := (-1)) C dX9_add_7 (by decide) ?_
    exact nc_iret C hr dX9_add_8 hφ hφ2 h
end
