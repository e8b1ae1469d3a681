section
variable {g : EG} {p : Program} {l : Launch} {e : Env} {s : State} {m : MethodId} {args : Array Value} {below : List Frame} {meth : Method} {c : Code} {A : Nat → Prop} {ad am ta : Nat → Nat} {Rr : va_W} {φ0 : Nat}
theorem dX12_actName_0 : decode cX12_actName 0 = .ok (.iload_n 0, 1) := by decide +kernel
theorem dX12_actName_1 : decode cX12_actName 1 = .ok (.tableswitch 55 0 4 #[35, 39, 43, 47, 51], 35) := by decide +kernel
theorem dX12_actName_36 : decode cX12_actName 36 = .ok (.ldc_w 384, 3) := by decide +kernel
theorem dX12_actName_39 : decode cX12_actName 39 = .ok (.areturn, 1) := by decide +kernel
theorem dX12_actName_40 : decode cX12_actName 40 = .ok (.ldc_w 386, 3) := by decide +kernel
theorem dX12_actName_43 : decode cX12_actName 43 = .ok (.areturn, 1) := by decide +kernel
theorem dX12_actName_44 : decode cX12_actName 44 = .ok (.ldc_w 388, 3) := by decide +kernel
theorem dX12_actName_47 : decode cX12_actName 47 = .ok (.areturn, 1) := by decide +kernel
theorem dX12_actName_48 : decode cX12_actName 48 = .ok (.ldc_w 390, 3) := by decide +kernel
theorem dX12_actName_51 : decode cX12_actName 51 = .ok (.areturn, 1) := by decide +kernel
theorem dX12_actName_52 : decode cX12_actName 52 = .ok (.ldc_w 392, 3) := by decide +kernel
theorem dX12_actName_55 : decode cX12_actName 55 = .ok (.areturn, 1) := by decide +kernel
theorem dX12_actName_56 : decode cX12_actName 56 = .ok (.ldc_w 394, 3) := by decide +kernel
theorem dX12_actName_59 : decode cX12_actName 59 = .ok (.areturn, 1) := by decide +kernel
def f_M_actName (p0 : Int32) (σ : CS) : Option (Int32 × CS) := if p0 = 0 then some (20, σ) else if p0 = 1 then some (21, σ) else if p0 = 2 then some (22, σ) else if p0 = 3 then some (23, σ) else if p0 = 4 then some (24, σ) else some (25, σ)
set_option maxHeartbeats 4000000 in
set_option maxRecDepth 100000 in
theorem c_M_actName {l : Launch} {g : EG} {am : Nat → Nat} {Rr : va_W} {σ σ' : CS} {r : Int32} {p0 : Int32}  (h : f_M_actName p0 σ = some (r, σ')) : CmS l g yX12_actName (.code yX12_actName cX12_actName 1 (some (.object "java/lang/String"))) 0 0 am Rr σ [.int p0] r σ' := by
  refine Ct.of rfl (by decide) (Nat.le_of_ble_eq_true rfl) ?_
  intro p e s m args below meth c A C hr
  show NMS g p l e s m args below meth c A 0 0 1 am Rr (r, σ') σ [(0, .int p0)] 0 []
  unfold f_M_actName at h
  refine nw_iload_n C dX12_actName_0 rfl 0 rfl ?_
  refine nw_tsCase (tgt := 36) C 0 dX12_actName_1 (by decide) (by decide) rfl (by decide) h (fun _ h => ?_) (fun hc0 h => ?_)
  · refine nw_ldsw (i := 20) C (by decide) rfl rfl dX12_actName_36 ?_
    exact nm_sret C hr dX12_actName_39 (by decide) (by decide) h
  · refine nw_tsCase (tgt := 40) C 1 dX12_actName_1 (by decide) (by decide) rfl (by decide) h (fun _ h => ?_) (fun hc1 h => ?_)
    · refine nw_ldsw (i := 21) C (by decide) rfl rfl dX12_actName_40 ?_
      exact nm_sret C hr dX12_actName_43 (by decide) (by decide) h
    · refine nw_tsCase (tgt := 44) C 2 dX12_actName_1 (by decide) (by decide) rfl (by decide) h (fun _ h => ?_) (fun hc2 h => ?_)
      · refine nw_ldsw (i := 22) C (by decide) rfl rfl dX12_actName_44 ?_
        exact nm_sret C hr dX12_actName_47 (by decide) (by decide) h
      · refine nw_tsCase (tgt := 48) C 3 dX12_actName_1 (by decide) (by decide) rfl (by decide) h (fun _ h => ?_) (fun hc3 h => ?_)
        · refine nw_ldsw (i := 23) C (by decide) rfl rfl dX12_actName_48 ?_
          exact nm_sret C hr dX12_actName_51 (by decide) (by decide) h
        · refine nw_tsCase (tgt := 52) C 4 dX12_actName_1 (by decide) (by decide) rfl (by decide) h (fun _ h => ?_) (fun hc4 h => ?_)
          · refine nw_ldsw (i := 24) C (by decide) rfl rfl dX12_actName_52 ?_
            exact nm_sret C hr dX12_actName_55 (by decide) (by decide) h
          · refine nw_tsOut (tgt := 56) C dX12_actName_1 (by have q0 := lv_neT hc0 (a := 0) (by decide); have q1 := lv_neT hc1 (a := 1) (by decide); have q2 := lv_neT hc2 (a := 2) (by decide); have q3 := lv_neT hc3 (a := 3) (by decide); have q4 := lv_neT hc4 (a := 4) (by decide); omega) (by decide) ?_
            refine nw_ldsw (i := 25) C (by decide) rfl rfl dX12_actName_56 ?_
            exact nm_sret C hr dX12_actName_59 (by decide) (by decide) h
theorem dX12_toldName_0 : decode cX12_toldName 0 = .ok (.iload_n 0, 1) := by decide +kernel
theorem dX12_toldName_1 : decode cX12_toldName 1 = .ok (.tableswitch 55 0 4 #[35, 39, 43, 47, 51], 35) := by decide +kernel
theorem dX12_toldName_36 : decode cX12_toldName 36 = .ok (.ldc_w 396, 3) := by decide +kernel
theorem dX12_toldName_39 : decode cX12_toldName 39 = .ok (.areturn, 1) := by decide +kernel
theorem dX12_toldName_40 : decode cX12_toldName 40 = .ok (.ldc_w 398, 3) := by decide +kernel
theorem dX12_toldName_43 : decode cX12_toldName 43 = .ok (.areturn, 1) := by decide +kernel
theorem dX12_toldName_44 : decode cX12_toldName 44 = .ok (.ldc_w 400, 3) := by decide +kernel
theorem dX12_toldName_47 : decode cX12_toldName 47 = .ok (.areturn, 1) := by decide +kernel
theorem dX12_toldName_48 : decode cX12_toldName 48 = .ok (.ldc_w 401, 3) := by decide +kernel
theorem dX12_toldName_51 : decode cX12_toldName 51 = .ok (.areturn, 1) := by decide +kernel
theorem dX12_toldName_52 : decode cX12_toldName 52 = .ok (.ldc_w 403, 3) := by decide +kernel
theorem dX12_toldName_55 : decode cX12_toldName 55 = .ok (.areturn, 1) := by decide +kernel
theorem dX12_toldName_56 : decode cX12_toldName 56 = .ok (.ldc_w 404, 3) := by decide +kernel
theorem dX12_toldName_59 : decode cX12_toldName 59 = .ok (.areturn, 1) := by decide +kernel
def f_M_toldName (p0 : Int32) (σ : CS) : Option (Int32 × CS) := if p0 = 0 then some (26, σ) else if p0 = 1 then some (27, σ) else if p0 = 2 then some (28, σ) else if p0 = 3 then some (29, σ) else if p0 = 4 then some (30, σ) else some (31, σ)
set_option maxHeartbeats 4000000 in
set_option maxRecDepth 100000 in
theorem c_M_toldName {l : Launch} {g : EG} {am : Nat → Nat} {Rr : va_W} {σ σ' : CS} {r : Int32} {p0 : Int32}  (h : f_M_toldName p0 σ = some (r, σ')) : CmS l g yX12_toldName (.code yX12_toldName cX12_toldName 1 (some (.object "java/lang/String"))) 0 0 am Rr σ [.int p0] r σ' := by
  refine Ct.of rfl (by decide) (Nat.le_of_ble_eq_true rfl) ?_
  intro p e s m args below meth c A C hr
  show NMS g p l e s m args below meth c A 0 0 1 am Rr (r, σ') σ [(0, .int p0)] 0 []
  unfold f_M_toldName at h
  refine nw_iload_n C dX12_toldName_0 rfl 0 rfl ?_
  refine nw_tsCase (tgt := 36) C 0 dX12_toldName_1 (by decide) (by decide) rfl (by decide) h (fun _ h => ?_) (fun hc0 h => ?_)
  · refine nw_ldsw (i := 26) C (by decide) rfl rfl dX12_toldName_36 ?_
    exact nm_sret C hr dX12_toldName_39 (by decide) (by decide) h
  · refine nw_tsCase (tgt := 40) C 1 dX12_toldName_1 (by decide) (by decide) rfl (by decide) h (fun _ h => ?_) (fun hc1 h => ?_)
    · refine nw_ldsw (i := 27) C (by decide) rfl rfl dX12_toldName_40 ?_
      exact nm_sret C hr dX12_toldName_43 (by decide) (by decide) h
    · refine nw_tsCase (tgt := 44) C 2 dX12_toldName_1 (by decide) (by decide) rfl (by decide) h (fun _ h => ?_) (fun hc2 h => ?_)
      · refine nw_ldsw (i := 28) C (by decide) rfl rfl dX12_toldName_44 ?_
        exact nm_sret C hr dX12_toldName_47 (by decide) (by decide) h
      · refine nw_tsCase (tgt := 48) C 3 dX12_toldName_1 (by decide) (by decide) rfl (by decide) h (fun _ h => ?_) (fun hc3 h => ?_)
        · refine nw_ldsw (i := 29) C (by decide) rfl rfl dX12_toldName_48 ?_
          exact nm_sret C hr dX12_toldName_51 (by decide) (by decide) h
        · refine nw_tsCase (tgt := 52) C 4 dX12_toldName_1 (by decide) (by decide) rfl (by decide) h (fun _ h => ?_) (fun hc4 h => ?_)
          · refine nw_ldsw (i := 30) C (by decide) rfl rfl dX12_toldName_52 ?_
            exact nm_sret C hr dX12_toldName_55 (by decide) (by decide) h
          · refine nw_tsOut (tgt := 56) C dX12_toldName_1 (by have q0 := lv_neT hc0 (a := 0) (by decide); have q1 := lv_neT hc1 (a := 1) (by decide); have q2 := lv_neT hc2 (a := 2) (by decide); have q3 := lv_neT hc3 (a := 3) (by decide); have q4 := lv_neT hc4 (a := 4) (by decide); omega) (by decide) ?_
            refine nw_ldsw (i := 31) C (by decide) rfl rfl dX12_toldName_56 ?_
            exact nm_sret C hr dX12_toldName_59 (by decide) (by decide) h
theorem dX12_clauseHere_0 : decode cX12_clauseHere 0 = .ok (.iconst 0, 1) := by decide +kernel
theorem dX12_clauseHere_1 : decode cX12_clauseHere 1 = .ok (.istore_n 1, 1) := by decide +kernel
theorem dX12_clauseHere_2 : decode cX12_clauseHere 2 = .ok (.iload_n 1, 1) := by decide +kernel
theorem dX12_clauseHere_3 : decode cX12_clauseHere 3 = .ok (.bipush 8, 2) := by decide +kernel
theorem dX12_clauseHere_5 : decode cX12_clauseHere 5 = .ok (.if_icmp .ge 22, 3) := by decide +kernel
theorem dX12_clauseHere_8 : decode cX12_clauseHere 8 = .ok (.aload_n 0, 1) := by decide +kernel
theorem dX12_clauseHere_9 : decode cX12_clauseHere 9 = .ok (.iload_n 1, 1) := by decide +kernel
theorem dX12_clauseHere_10 : decode cX12_clauseHere 10 = .ok (.invokestatic 406, 3) := by decide +kernel
theorem dX12_clauseHere_13 : decode cX12_clauseHere 13 = .ok (.invokevirtual 364, 3) := by decide +kernel
theorem dX12_clauseHere_16 : decode cX12_clauseHere 16 = .ok (.ifCond .eq 5, 3) := by decide +kernel
theorem dX12_clauseHere_19 : decode cX12_clauseHere 19 = .ok (.iload_n 1, 1) := by decide +kernel
theorem dX12_clauseHere_20 : decode cX12_clauseHere 20 = .ok (.ireturn, 1) := by decide +kernel
theorem dX12_clauseHere_21 : decode cX12_clauseHere 21 = .ok (.iinc 1 1, 3) := by decide +kernel
theorem dX12_clauseHere_24 : decode cX12_clauseHere 24 = .ok (.goto (-22), 3) := by decide +kernel
theorem dX12_clauseHere_27 : decode cX12_clauseHere 27 = .ok (.iconst (-1), 1) := by decide +kernel
theorem dX12_clauseHere_28 : decode cX12_clauseHere 28 = .ok (.ireturn, 1) := by decide +kernel
def L_M_clauseHere_2   : Nat → Int32 → CS → Option (Int32 × CS)
  | 0, _, _ => none
  | n + 1, x1, σ => if 8 ≤ x1 then some ((-1), σ) else bnd (f_M_clauseName x1 σ) (fun r10 σ10 => bnd (f_M_isWord r10.toNatClampNeg σ10) (fun r13 σ13 => if r13 = 0 then (L_M_clauseHere_2 n) (x1 + 1) σ13 else some (x1, σ13)))
set_option maxHeartbeats 4000000 in
set_option maxRecDepth 100000 in
theorem w_M_clauseHere_2 (C : Cx g p s m args meth c A 2 cX12_clauseHere yX12_clauseHere.cls) (hr : meth.sig.returnType = (some .int))  {res : Int32 × CS}    : ∀ (n : Nat) (x1 : Int32) (σ : CS), L_M_clauseHere_2 n x1 σ = some res → NMI g p l e s m args below meth c A 5 152 2 am Rr res σ [(0, .ref (am 112)), (1, .int x1)] 2 [] := by
  intro n
  induction n with
  | zero =>
    intro x1 σ h
    exact absurd (show (none : Option (Int32 × CS)) = some res from h) (by intro h9; cases h9)
  | succ n ih =>
    intro x1 σ h
    rw [L_M_clauseHere_2] at h
    refine nw_iload_n C dX12_clauseHere_2 rfl 1 rfl ?_
    refine nw_bipush (v := 8) C dX12_clauseHere_3 (by decide) ?_
    refine nw_icmp_ge (tgt := 27) C dX12_clauseHere_5 (by decide) h (fun _ h => ?_) (fun _ h => ?_)
    · refine nw_iconst (v := (-1)) C dX12_clauseHere_27 (by decide) ?_
      exact nm_iret C hr dX12_clauseHere_28 h
    · refine nw_aload_n C dX12_clauseHere_8 rfl 0 rfl ?_
      refine nw_iload_n C dX12_clauseHere_9 rfl 1 rfl ?_
      refine nm_callSS  (As := [.int x1]) (rest := [.ref (am 112)]) C h (fun _ _ e => c_M_clauseName e) tw_2033 ks_X12_clauseName ⟨Nat.le_of_ble_eq_true rfl, Nat.le_of_ble_eq_true rfl⟩ rfl dX12_clauseHere_10 rfl (Nat.le_of_ble_eq_true rfl) (fun r10 σ10 hs10 h => ?_)
      refine nm_callVI (q0 := 0) (As := [.ref (gK g r10.toNatClampNeg)]) (rest := []) C h (fun _ _ e => c_M_isWord r10.toNatClampNeg hs10 e) tw_2044 kv_X12_isWord ml_O rfl ⟨Nat.le_of_ble_eq_true rfl, Nat.le_of_ble_eq_true rfl⟩ rfl dX12_clauseHere_13 rfl (Nat.le_of_ble_eq_true rfl) (fun r13 σ13 h => ?_)
      refine nw_if_eq (tgt := 21) C dX12_clauseHere_16 (by decide) h (fun _ h => ?_) (fun _ h => ?_)
      · refine nw_iinc (lv' := [(1, .int (x1 + 1)), (0, .ref (am 112))]) C (x1 + 1) dX12_clauseHere_21 1 rfl rfl (by decide) rfl ?_
        refine nw_goto (tgt := 2) C dX12_clauseHere_24 (by decide) ?_
        exact nw_lv (lv' := [(0, .ref (am 112)), (1, .int (x1 + 1))]) [1, 0] rfl (ih (x1 + 1) _ h)
      · refine nw_iload_n C dX12_clauseHere_19 rfl 1 rfl ?_
        exact nm_iret C hr dX12_clauseHere_20 h
def f_M_clauseHere  (σ : CS) : Option (Int32 × CS) := L_M_clauseHere_2 FU 0 σ
set_option maxHeartbeats 4000000 in
set_option maxRecDepth 100000 in
theorem c_M_clauseHere {l : Launch} {g : EG} {am : Nat → Nat} {Rr : va_W} {σ σ' : CS} {r : Int32}   (h : f_M_clauseHere σ = some (r, σ')) : CmI l g yX12_clauseHere (.code yX12_clauseHere cX12_clauseHere 2 (some .int)) 5 152 am Rr σ [.ref (am 112)] r σ' := by
  refine Ct.of rfl (by decide) (Nat.le_of_ble_eq_true rfl) ?_
  intro p e s m args below meth c A C hr
  show NMI g p l e s m args below meth c A 5 152 2 am Rr (r, σ') σ [(0, .ref (am 112))] 0 []
  unfold f_M_clauseHere at h
  refine nw_iconst (v := 0) C dX12_clauseHere_0 (by decide) ?_
  refine nw_istore_n (lv' := [(1, .int 0), (0, .ref (am 112))]) C dX12_clauseHere_1 rfl (by decide) rfl ?_
  exact nw_lv (lv' := [(0, .ref (am 112)), (1, .int 0)]) [1, 0] rfl (w_M_clauseHere_2 C hr FU 0 _ h)
theorem dX12_act_0 : decode cX12_act 0 = .ok (.iconst 0, 1) := by decide +kernel
theorem dX12_act_1 : decode cX12_act 1 = .ok (.istore_n 1, 1) := by decide +kernel
theorem dX12_act_2 : decode cX12_act 2 = .ok (.iload_n 1, 1) := by decide +kernel
theorem dX12_act_3 : decode cX12_act 3 = .ok (.bipush 6, 2) := by decide +kernel
theorem dX12_act_5 : decode cX12_act 5 = .ok (.if_icmp .ge 22, 3) := by decide +kernel
theorem dX12_act_8 : decode cX12_act 8 = .ok (.aload_n 0, 1) := by decide +kernel
theorem dX12_act_9 : decode cX12_act 9 = .ok (.iload_n 1, 1) := by decide +kernel
theorem dX12_act_10 : decode cX12_act 10 = .ok (.invokestatic 410, 3) := by decide +kernel
theorem dX12_act_13 : decode cX12_act 13 = .ok (.invokevirtual 413, 3) := by decide +kernel
theorem dX12_act_16 : decode cX12_act 16 = .ok (.ifCond .eq 5, 3) := by decide +kernel
theorem dX12_act_19 : decode cX12_act 19 = .ok (.iload_n 1, 1) := by decide +kernel
theorem dX12_act_20 : decode cX12_act 20 = .ok (.ireturn, 1) := by decide +kernel
theorem dX12_act_21 : decode cX12_act 21 = .ok (.iinc 1 1, 3) := by decide +kernel
theorem dX12_act_24 : decode cX12_act 24 = .ok (.goto (-22), 3) := by decide +kernel
theorem dX12_act_27 : decode cX12_act 27 = .ok (.aload_n 0, 1) := by decide +kernel
theorem dX12_act_28 : decode cX12_act 28 = .ok (.iconst 1, 1) := by decide +kernel
theorem dX12_act_29 : decode cX12_act 29 = .ok (.aload_n 0, 1) := by decide +kernel
theorem dX12_act_30 : decode cX12_act 30 = .ok (.getfield 343, 3) := by decide +kernel
theorem dX12_act_33 : decode cX12_act 33 = .ok (.invokevirtual 416, 3) := by decide +kernel
theorem dX12_act_36 : decode cX12_act 36 = .ok (.iconst 0, 1) := by decide +kernel
theorem dX12_act_37 : decode cX12_act 37 = .ok (.ireturn, 1) := by decide +kernel
def L_M_act_2 (k27 : CS → Option (Int32 × CS))  : Nat → Int32 → CS → Option (Int32 × CS)
  | 0, _, _ => none
  | n + 1, x1, σ => if 6 ≤ x1 then k27 σ else bnd (f_M_actName x1 σ) (fun r10 σ10 => bnd (f_M_eat r10.toNatClampNeg σ10) (fun r13 σ13 => if r13 = 0 then (L_M_act_2 k27 n) (x1 + 1) σ13 else some (x1, σ13)))
set_option maxHeartbeats 4000000 in
set_option maxRecDepth 100000 in
theorem w_M_act_2 (C : Cx g p s m args meth c A 2 cX12_act yX12_act.cls) (hr : meth.sig.returnType = (some .int))  {res : Int32 × CS}   {k27 : CS → Option (Int32 × CS)} (hk27 : ∀  (σ : CS), k27  σ = some res → NMI g p l e s m args below meth c A 6 174 2 am Rr res σ [(0, .ref (am 112))] 27 []) : ∀ (n : Nat) (x1 : Int32) (σ : CS), L_M_act_2 k27 n x1 σ = some res → NMI g p l e s m args below meth c A 6 174 2 am Rr res σ [(0, .ref (am 112)), (1, .int x1)] 2 [] := by
  intro n
  induction n with
  | zero =>
    intro x1 σ h
    exact absurd (show (none : Option (Int32 × CS)) = some res from h) (by intro h9; cases h9)
  | succ n ih =>
    intro x1 σ h
    rw [L_M_act_2] at h
    refine nw_iload_n C dX12_act_2 rfl 1 rfl ?_
    refine nw_bipush (v := 6) C dX12_act_3 (by decide) ?_
    refine nw_icmp_ge (tgt := 27) C dX12_act_5 (by decide) h (fun _ h => ?_) (fun _ h => ?_)
    · exact nw_lv (lv' := [(0, .ref (am 112))]) [0] rfl (hk27  _ h)
    · refine nw_aload_n C dX12_act_8 rfl 0 rfl ?_
      refine nw_iload_n C dX12_act_9 rfl 1 rfl ?_
      refine nm_callSS  (As := [.int x1]) (rest := [.ref (am 112)]) C h (fun _ _ e => c_M_actName e) tw_2062 ks_X12_actName ⟨Nat.le_of_ble_eq_true rfl, Nat.le_of_ble_eq_true rfl⟩ rfl dX12_act_10 rfl (Nat.le_of_ble_eq_true rfl) (fun r10 σ10 hs10 h => ?_)
      refine nm_callVI (q0 := 0) (As := [.ref (gK g r10.toNatClampNeg)]) (rest := []) C h (fun _ _ e => c_M_eat r10.toNatClampNeg hs10 e) tw_2071 kv_X12_eat ml_O rfl ⟨Nat.le_of_ble_eq_true rfl, Nat.le_of_ble_eq_true rfl⟩ rfl dX12_act_13 rfl (Nat.le_of_ble_eq_true rfl) (fun r13 σ13 h => ?_)
      refine nw_if_eq (tgt := 21) C dX12_act_16 (by decide) h (fun _ h => ?_) (fun _ h => ?_)
      · refine nw_iinc (lv' := [(1, .int (x1 + 1)), (0, .ref (am 112))]) C (x1 + 1) dX12_act_21 1 rfl rfl (by decide) rfl ?_
        refine nw_goto (tgt := 2) C dX12_act_24 (by decide) ?_
        exact nw_lv (lv' := [(0, .ref (am 112)), (1, .int (x1 + 1))]) [1, 0] rfl (ih (x1 + 1) _ h)
      · refine nw_iload_n C dX12_act_19 rfl 1 rfl ?_
        exact nm_iret C hr dX12_act_20 h
def B_M_act_27    (σ : CS) : Option (Int32 × CS) := bnd (f_M_wrong 1 (σ.1 23) σ) (fun _ σ33 => some (0, σ33))
set_option maxHeartbeats 4000000 in
set_option maxRecDepth 100000 in
theorem w_M_act_27 (C : Cx g p s m args meth c A 2 cX12_act yX12_act.cls) (hr : meth.sig.returnType = (some .int))  {res : Int32 × CS}     (σ : CS) (h : B_M_act_27 σ = some res) : NMI g p l e s m args below meth c A 6 174 2 am Rr res σ [(0, .ref (am 112))] 27 [] := by
  unfold B_M_act_27 at h
  refine nw_aload_n C dX12_act_27 rfl 0 rfl ?_
  refine nw_iconst (v := 1) C dX12_act_28 (by decide) ?_
  refine nw_aload_n C dX12_act_29 rfl 0 rfl ?_
  refine nw_get (v := .int (σ.1 23)) C in_X12 0 ml_O rfl 23 (by decide) tw_1596 rfl mf_23 dX12_act_30 ?_
  refine nm_callVV (q0 := 0) (As := [.int 1, .int (σ.1 23)]) (rest := []) C h (fun _ _ e => c_M_wrong e) tw_2050 kv_X12_wrong ml_O rfl ⟨Nat.le_of_ble_eq_true rfl, Nat.le_of_ble_eq_true rfl⟩ rfl dX12_act_33 rfl (Nat.le_of_ble_eq_true rfl) (fun r33 σ33 h => ?_)
  refine nw_iconst (v := 0) C dX12_act_36 (by decide) ?_
  exact nm_iret C hr dX12_act_37 h
def f_M_act  (σ : CS) : Option (Int32 × CS) := L_M_act_2 (B_M_act_27) FU 0 σ
set_option maxHeartbeats 4000000 in
set_option maxRecDepth 100000 in
theorem c_M_act {l : Launch} {g : EG} {am : Nat → Nat} {Rr : va_W} {σ σ' : CS} {r : Int32}   (h : f_M_act σ = some (r, σ')) : CmI l g yX12_act (.code yX12_act cX12_act 2 (some .int)) 6 174 am Rr σ [.ref (am 112)] r σ' := by
  refine Ct.of rfl (by decide) (Nat.le_of_ble_eq_true rfl) ?_
  intro p e s m args below meth c A C hr
  show NMI g p l e s m args below meth c A 6 174 2 am Rr (r, σ') σ [(0, .ref (am 112))] 0 []
  unfold f_M_act at h
  refine nw_iconst (v := 0) C dX12_act_0 (by decide) ?_
  refine nw_istore_n (lv' := [(1, .int 0), (0, .ref (am 112))]) C dX12_act_1 rfl (by decide) rfl ?_
  exact nw_lv (lv' := [(0, .ref (am 112)), (1, .int 0)]) [1, 0] rfl (w_M_act_2 C hr (fun σ_ h_ => w_M_act_27 C hr σ_ h_) FU 0 _ h)
theorem dX12_figures_0 : decode cX12_figures 0 = .ok (.aload_n 0, 1) := by decide +kernel
theorem dX12_figures_1 : decode cX12_figures 1 = .ok (.getfield 349, 3) := by decide +kernel
theorem dX12_figures_4 : decode cX12_figures 4 = .ok (.ifCond .le 5, 3) := by decide +kernel
theorem dX12_figures_7 : decode cX12_figures 7 = .ok (.iconst 0, 1) := by decide +kernel
theorem dX12_figures_8 : decode cX12_figures 8 = .ok (.ireturn, 1) := by decide +kernel
theorem dX12_figures_9 : decode cX12_figures 9 = .ok (.aload_n 0, 1) := by decide +kernel
theorem dX12_figures_10 : decode cX12_figures 10 = .ok (.invokevirtual 352, 3) := by decide +kernel
theorem dX12_figures_13 : decode cX12_figures 13 = .ok (.aload_n 0, 1) := by decide +kernel
theorem dX12_figures_14 : decode cX12_figures 14 = .ok (.getfield 343, 3) := by decide +kernel
theorem dX12_figures_17 : decode cX12_figures 17 = .ok (.istore_n 3, 1) := by decide +kernel
theorem dX12_figures_18 : decode cX12_figures 18 = .ok (.iconst 0, 1) := by decide +kernel
theorem dX12_figures_19 : decode cX12_figures 19 = .ok (.istore 4, 2) := by decide +kernel
theorem dX12_figures_21 : decode cX12_figures 21 = .ok (.aload_n 0, 1) := by decide +kernel
theorem dX12_figures_22 : decode cX12_figures 22 = .ok (.aload_n 0, 1) := by decide +kernel
theorem dX12_figures_23 : decode cX12_figures 23 = .ok (.getfield 343, 3) := by decide +kernel
theorem dX12_figures_26 : decode cX12_figures 26 = .ok (.invokevirtual 346, 3) := by decide +kernel
theorem dX12_figures_29 : decode cX12_figures 29 = .ok (.invokestatic 419, 3) := by decide +kernel
theorem dX12_figures_32 : decode cX12_figures 32 = .ok (.ifCond .ne 14, 3) := by decide +kernel
theorem dX12_figures_35 : decode cX12_figures 35 = .ok (.aload_n 0, 1) := by decide +kernel
theorem dX12_figures_36 : decode cX12_figures 36 = .ok (.iconst 1, 1) := by decide +kernel
theorem dX12_figures_37 : decode cX12_figures 37 = .ok (.aload_n 0, 1) := by decide +kernel
theorem dX12_figures_38 : decode cX12_figures 38 = .ok (.getfield 343, 3) := by decide +kernel
theorem dX12_figures_41 : decode cX12_figures 41 = .ok (.invokevirtual 416, 3) := by decide +kernel
theorem dX12_figures_44 : decode cX12_figures 44 = .ok (.iconst 0, 1) := by decide +kernel
theorem dX12_figures_45 : decode cX12_figures 45 = .ok (.ireturn, 1) := by decide +kernel
theorem dX12_figures_46 : decode cX12_figures 46 = .ok (.aload_n 0, 1) := by decide +kernel
theorem dX12_figures_47 : decode cX12_figures 47 = .ok (.aload_n 0, 1) := by decide +kernel
theorem dX12_figures_48 : decode cX12_figures 48 = .ok (.getfield 343, 3) := by decide +kernel
theorem dX12_figures_51 : decode cX12_figures 51 = .ok (.invokevirtual 346, 3) := by decide +kernel
theorem dX12_figures_54 : decode cX12_figures 54 = .ok (.invokestatic 419, 3) := by decide +kernel
theorem dX12_figures_57 : decode cX12_figures 57 = .ok (.ifCond .eq 48, 3) := by decide +kernel
theorem dX12_figures_60 : decode cX12_figures 60 = .ok (.iload 4, 2) := by decide +kernel
theorem dX12_figures_62 : decode cX12_figures 62 = .ok (.ldc_w 256, 3) := by decide +kernel
theorem dX12_figures_65 : decode cX12_figures 65 = .ok (.if_icmp .le 8, 3) := by decide +kernel
theorem dX12_figures_68 : decode cX12_figures 68 = .ok (.iload 4, 2) := by decide +kernel
theorem dX12_figures_70 : decode cX12_figures 70 = .ok (.goto 20, 3) := by decide +kernel
theorem dX12_figures_73 : decode cX12_figures 73 = .ok (.bipush 10, 2) := by decide +kernel
theorem dX12_figures_75 : decode cX12_figures 75 = .ok (.iload 4, 2) := by decide +kernel
theorem dX12_figures_77 : decode cX12_figures 77 = .ok (.imul, 1) := by decide +kernel
theorem dX12_figures_78 : decode cX12_figures 78 = .ok (.aload_n 0, 1) := by decide +kernel
theorem dX12_figures_79 : decode cX12_figures 79 = .ok (.aload_n 0, 1) := by decide +kernel
theorem dX12_figures_80 : decode cX12_figures 80 = .ok (.getfield 343, 3) := by decide +kernel
theorem dX12_figures_83 : decode cX12_figures 83 = .ok (.invokevirtual 346, 3) := by decide +kernel
theorem dX12_figures_86 : decode cX12_figures 86 = .ok (.iadd, 1) := by decide +kernel
theorem dX12_figures_87 : decode cX12_figures 87 = .ok (.bipush 48, 2) := by decide +kernel
theorem dX12_figures_89 : decode cX12_figures 89 = .ok (.isub, 1) := by decide +kernel
theorem dX12_figures_90 : decode cX12_figures 90 = .ok (.istore 4, 2) := by decide +kernel
theorem dX12_figures_92 : decode cX12_figures 92 = .ok (.aload_n 0, 1) := by decide +kernel
theorem dX12_figures_93 : decode cX12_figures 93 = .ok (.dup, 1) := by decide +kernel
theorem dX12_figures_94 : decode cX12_figures 94 = .ok (.getfield 343, 3) := by decide +kernel
theorem dX12_figures_97 : decode cX12_figures 97 = .ok (.iconst 1, 1) := by decide +kernel
theorem dX12_figures_98 : decode cX12_figures 98 = .ok (.iadd, 1) := by decide +kernel
theorem dX12_figures_99 : decode cX12_figures 99 = .ok (.putfield 343, 3) := by decide +kernel
theorem dX12_figures_102 : decode cX12_figures 102 = .ok (.goto (-56), 3) := by decide +kernel
theorem dX12_figures_105 : decode cX12_figures 105 = .ok (.iload 4, 2) := by decide +kernel
theorem dX12_figures_107 : decode cX12_figures 107 = .ok (.iload_n 1, 1) := by decide +kernel
theorem dX12_figures_108 : decode cX12_figures 108 = .ok (.if_icmp .lt 9, 3) := by decide +kernel
theorem dX12_figures_111 : decode cX12_figures 111 = .ok (.iload 4, 2) := by decide +kernel
theorem dX12_figures_113 : decode cX12_figures 113 = .ok (.iload_n 2, 1) := by decide +kernel
theorem dX12_figures_114 : decode cX12_figures 114 = .ok (.if_icmp .le 9, 3) := by decide +kernel
theorem dX12_figures_117 : decode cX12_figures 117 = .ok (.aload_n 0, 1) := by decide +kernel
theorem dX12_figures_118 : decode cX12_figures 118 = .ok (.iconst 2, 1) := by decide +kernel
theorem dX12_figures_119 : decode cX12_figures 119 = .ok (.iload_n 3, 1) := by decide +kernel
theorem dX12_figures_120 : decode cX12_figures 120 = .ok (.invokevirtual 416, 3) := by decide +kernel
theorem dX12_figures_123 : decode cX12_figures 123 = .ok (.iload 4, 2) := by decide +kernel
theorem dX12_figures_125 : decode cX12_figures 125 = .ok (.ireturn, 1) := by decide +kernel
def B_M_figures_90 (k46 : Int32 → CS → Option (Int32 × CS)) (x1 : Int32) (x2 : Int32) (x3 : Int32) (z0 : Int32) (σ : CS) : Option (Int32 × CS) := k46 z0 (sF σ 23 ((σ.1 23) + 1))
set_option maxHeartbeats 4000000 in
set_option maxRecDepth 100000 in
theorem w_M_figures_90 (C : Cx g p s m args meth c A 5 cX12_figures yX12_figures.cls) (hr : meth.sig.returnType = (some .int))  {res : Int32 × CS}  (x1 : Int32) (x2 : Int32) (x3 : Int32) (z0 : Int32) {k46 : Int32 → CS → Option (Int32 × CS)} (hk46 : ∀ (x4 : Int32) (σ : CS), k46 x4 σ = some res → NMI g p l e s m args below meth c A 2 41 5 am Rr res σ [(0, .ref (am 112)), (1, .int x1), (2, .int x2), (3, .int x3), (4, .int x4)] 46 []) (σ : CS) (h : B_M_figures_90 k46 x1 x2 x3 z0 σ = some res) : NMI g p l e s m args below meth c A 2 41 5 am Rr res σ [(0, .ref (am 112)), (1, .int x1), (2, .int x2), (3, .int x3)] 90 [.int z0] := by
  unfold B_M_figures_90 at h
  refine nw_istore (lv' := [(4, .int z0), (0, .ref (am 112)), (1, .int x1), (2, .int x2), (3, .int x3)]) C dX12_figures_90 (by decide) rfl ?_
  refine nw_aload_n C dX12_figures_92 rfl 1 rfl ?_
  refine nw_dup C dX12_figures_93 rfl ?_
  refine nw_get (v := .int (σ.1 23)) C in_X12 0 ml_O rfl 23 (by decide) tw_1596 rfl mf_23 dX12_figures_94 ?_
  refine nw_iconst (v := 1) C dX12_figures_97 (by decide) ?_
  refine nw_iadd C dX12_figures_98 ?_
  refine nw_put (ty := .int) C in_X12 0 ml_O rfl 23 (by decide) tyX12 tyX12_ok nmX12 tw_1596 rfl rfl (by decide +kernel) rfl rfl (Nat.le_of_ble_eq_true rfl) dX12_figures_99 ms_23 ?_
  refine nw_goto (tgt := 46) C dX12_figures_102 (by decide) ?_
  exact nw_lv (lv' := [(0, .ref (am 112)), (1, .int x1), (2, .int x2), (3, .int x3), (4, .int z0)]) [1, 2, 3, 4, 0] rfl (hk46 z0 _ h)
def L_M_figures_46 (k105 : Int32 → Int32 → Int32 → Int32 → CS → Option (Int32 × CS)) (x1 : Int32) (x2 : Int32) (x3 : Int32) : Nat → Int32 → CS → Option (Int32 × CS)
  | 0, _, _ => none
  | n + 1, x4, σ => bnd (f_M_byteAt (σ.1 23) σ) (fun r51 σ51 => bnd (f_M_isDigit r51 σ51) (fun r54 σ54 => if r54 = 0 then k105 x1 x2 x3 x4 σ54 else if x4 ≤ 100000 then bnd (f_M_byteAt (σ54.1 23) σ54) (fun r83 σ83 => B_M_figures_90 (L_M_figures_46 k105 x1 x2 x3 n) x1 x2 x3 (((10 * x4) + r83) - 48) σ83) else B_M_figures_90 (L_M_figures_46 k105 x1 x2 x3 n) x1 x2 x3 x4 σ54))
set_option maxHeartbeats 4000000 in
set_option maxRecDepth 100000 in
theorem w_M_figures_46 (C : Cx g p s m args meth c A 5 cX12_figures yX12_figures.cls) (hr : meth.sig.returnType = (some .int))  {res : Int32 × CS}  (x1 : Int32) (x2 : Int32) (x3 : Int32) {k105 : Int32 → Int32 → Int32 → Int32 → CS → Option (Int32 × CS)} (hk105 : ∀ (x1 : Int32) (x2 : Int32) (x3 : Int32) (x4 : Int32) (σ : CS), k105 x1 x2 x3 x4 σ = some res → NMI g p l e s m args below meth c A 2 41 5 am Rr res σ [(0, .ref (am 112)), (1, .int x1), (2, .int x2), (3, .int x3), (4, .int x4)] 105 []) : ∀ (n : Nat) (x4 : Int32) (σ : CS), L_M_figures_46 k105 x1 x2 x3 n x4 σ = some res → NMI g p l e s m args below meth c A 2 41 5 am Rr res σ [(0, .ref (am 112)), (1, .int x1), (2, .int x2), (3, .int x3), (4, .int x4)] 46 [] := by
  intro n
  induction n with
  | zero =>
    intro x4 σ h
    exact absurd (show (none : Option (Int32 × CS)) = some res from h) (by intro h9; cases h9)
  | succ n ih =>
    intro x4 σ h
    rw [L_M_figures_46] at h
    refine nw_aload_n C dX12_figures_46 rfl 0 rfl ?_
    refine nw_aload_n C dX12_figures_47 rfl 0 rfl ?_
    refine nw_get (v := .int (σ.1 23)) C in_X12 0 ml_O rfl 23 (by decide) tw_1596 rfl mf_23 dX12_figures_48 ?_
    refine nm_callVI (q0 := 0) (As := [.int (σ.1 23)]) (rest := []) C h (fun _ _ e => c_M_byteAt e) tw_2025 kv_X12_byteAt ml_O rfl ⟨Nat.le_of_ble_eq_true rfl, Nat.le_of_ble_eq_true rfl⟩ rfl dX12_figures_51 rfl (Nat.le_of_ble_eq_true rfl) (fun r51 σ51 h => ?_)
    refine nm_callSI  (As := [.int r51]) (rest := []) C h (fun _ _ e => c_M_isDigit e) tw_2091 ks_X12_isDigit ⟨Nat.le_of_ble_eq_true rfl, Nat.le_of_ble_eq_true rfl⟩ rfl dX12_figures_54 rfl (Nat.le_of_ble_eq_true rfl) (fun r54 σ54 h => ?_)
    refine nw_if_eq (tgt := 105) C dX12_figures_57 (by decide) h (fun _ h => ?_) (fun _ h => ?_)
    · exact nw_lv (lv' := [(0, .ref (am 112)), (1, .int x1), (2, .int x2), (3, .int x3), (4, .int x4)]) [0, 1, 2, 3, 4] rfl (hk105 x1 x2 x3 x4 _ h)
    · refine nw_iload C dX12_figures_60 4 rfl ?_
      refine nw_ldcw (v := 100000) C tw_1939 dX12_figures_62 ?_
      refine nw_icmp_le (tgt := 73) C dX12_figures_65 (by decide) h (fun _ h => ?_) (fun _ h => ?_)
      · refine nw_bipush (v := 10) C dX12_figures_73 (by decide) ?_
        refine nw_iload C dX12_figures_75 4 rfl ?_
        refine nw_imul C dX12_figures_77 ?_
        refine nw_aload_n C dX12_figures_78 rfl 0 rfl ?_
        refine nw_aload_n C dX12_figures_79 rfl 0 rfl ?_
        refine nw_get (v := .int (σ54.1 23)) C in_X12 0 ml_O rfl 23 (by decide) tw_1596 rfl mf_23 dX12_figures_80 ?_
        refine nm_callVI (q0 := 0) (As := [.int (σ54.1 23)]) (rest := [.int (10 * x4)]) C h (fun _ _ e => c_M_byteAt e) tw_2025 kv_X12_byteAt ml_O rfl ⟨Nat.le_of_ble_eq_true rfl, Nat.le_of_ble_eq_true rfl⟩ rfl dX12_figures_83 rfl (Nat.le_of_ble_eq_true rfl) (fun r83 σ83 h => ?_)
        refine nw_iadd C dX12_figures_86 ?_
        refine nw_bipush (v := 48) C dX12_figures_87 (by decide) ?_
        refine nw_isub C dX12_figures_89 ?_
        exact nw_lv (lv' := [(0, .ref (am 112)), (1, .int x1), (2, .int x2), (3, .int x3)]) [0, 1, 2, 3] rfl (w_M_figures_90 C hr x1 x2 x3 (((10 * x4) + r83) - 48) ih _ h)
      · refine nw_iload C dX12_figures_68 4 rfl ?_
        refine nw_goto (tgt := 90) C dX12_figures_70 (by decide) ?_
        exact nw_lv (lv' := [(0, .ref (am 112)), (1, .int x1), (2, .int x2), (3, .int x3)]) [0, 1, 2, 3] rfl (w_M_figures_90 C hr x1 x2 x3 x4 ih _ h)
def B_M_figures_117   (x3 : Int32) (x4 : Int32) (σ : CS) : Option (Int32 × CS) := bnd (f_M_wrong 2 x3 σ) (fun _ σ120 => some (x4, σ120))
set_option maxHeartbeats 4000000 in
set_option maxRecDepth 100000 in
theorem w_M_figures_117 (C : Cx g p s m args meth c A 5 cX12_figures yX12_figures.cls) (hr : meth.sig.returnType = (some .int))  {res : Int32 × CS}   (x3 : Int32) (x4 : Int32)  (σ : CS) (h : B_M_figures_117 x3 x4 σ = some res) : NMI g p l e s m args below meth c A 2 41 5 am Rr res σ [(0, .ref (am 112)), (3, .int x3), (4, .int x4)] 117 [] := by
  unfold B_M_figures_117 at h
  refine nw_aload_n C dX12_figures_117 rfl 0 rfl ?_
  refine nw_iconst (v := 2) C dX12_figures_118 (by decide) ?_
  refine nw_iload_n C dX12_figures_119 rfl 1 rfl ?_
  refine nm_callVV (q0 := 0) (As := [.int 2, .int x3]) (rest := []) C h (fun _ _ e => c_M_wrong e) tw_2050 kv_X12_wrong ml_O rfl ⟨Nat.le_of_ble_eq_true rfl, Nat.le_of_ble_eq_true rfl⟩ rfl dX12_figures_120 rfl (Nat.le_of_ble_eq_true rfl) (fun r120 σ120 h => ?_)
  refine nw_iload C dX12_figures_123 2 rfl ?_
  exact nm_iret C hr dX12_figures_125 h
def B_M_figures_105   (x1 : Int32) (x2 : Int32) (x3 : Int32) (x4 : Int32) (σ : CS) : Option (Int32 × CS) := if x4 < x1 then B_M_figures_117 x3 x4 σ else if x4 ≤ x2 then some (x4, σ) else B_M_figures_117 x3 x4 σ
set_option maxHeartbeats 4000000 in
set_option maxRecDepth 100000 in
theorem w_M_figures_105 (C : Cx g p s m args meth c A 5 cX12_figures yX12_figures.cls) (hr : meth.sig.returnType = (some .int))  {res : Int32 × CS}   (x1 : Int32) (x2 : Int32) (x3 : Int32) (x4 : Int32)  (σ : CS) (h : B_M_figures_105 x1 x2 x3 x4 σ = some res) : NMI g p l e s m args below meth c A 2 41 5 am Rr res σ [(0, .ref (am 112)), (1, .int x1), (2, .int x2), (3, .int x3), (4, .int x4)] 105 [] := by
  unfold B_M_figures_105 at h
  refine nw_iload C dX12_figures_105 4 rfl ?_
  refine nw_iload_n C dX12_figures_107 rfl 1 rfl ?_
  refine nw_icmp_lt (tgt := 117) C dX12_figures_108 (by decide) h (fun _ h => ?_) (fun _ h => ?_)
  · exact nw_lv (lv' := [(0, .ref (am 112)), (3, .int x3), (4, .int x4)]) [0, 3, 4] rfl (w_M_figures_117 C hr x3 x4 _ h)
  · refine nw_iload C dX12_figures_111 4 rfl ?_
    refine nw_iload_n C dX12_figures_113 rfl 2 rfl ?_
    refine nw_icmp_le (tgt := 123) C dX12_figures_114 (by decide) h (fun _ h => ?_) (fun _ h => ?_)
    · refine nw_iload C dX12_figures_123 4 rfl ?_
      exact nm_iret C hr dX12_figures_125 h
    · exact nw_lv (lv' := [(0, .ref (am 112)), (3, .int x3), (4, .int x4)]) [0, 3, 4] rfl (w_M_figures_117 C hr x3 x4 _ h)
def f_M_figures (p0 : Int32) (p1 : Int32) (σ : CS) : Option (Int32 × CS) := if (σ.1 24) ≤ 0 then bnd (f_M_blanks σ) (fun _ σ10 => bnd (f_M_byteAt (σ10.1 23) σ10) (fun r26 σ26 => bnd (f_M_isDigit r26 σ26) (fun r29 σ29 => if r29 = 0 then bnd (f_M_wrong 1 (σ29.1 23) σ29) (fun _ σ41 => some (0, σ41)) else L_M_figures_46 (B_M_figures_105) p0 p1 (σ10.1 23) FU 0 σ29))) else some (0, σ)
set_option maxHeartbeats 4000000 in
set_option maxRecDepth 100000 in
theorem c_M_figures {l : Launch} {g : EG} {am : Nat → Nat} {Rr : va_W} {σ σ' : CS} {r : Int32} {p0 : Int32} {p1 : Int32}  (h : f_M_figures p0 p1 σ = some (r, σ')) : CmI l g yX12_figures (.code yX12_figures cX12_figures 5 (some .int)) 2 41 am Rr σ [.ref (am 112), .int p0, .int p1] r σ' := by
  refine Ct.of rfl (by decide) (Nat.le_of_ble_eq_true rfl) ?_
  intro p e s m args below meth c A C hr
  show NMI g p l e s m args below meth c A 2 41 5 am Rr (r, σ') σ [(0, .ref (am 112)), (1, .int p0), (2, .int p1)] 0 []
  unfold f_M_figures at h
  refine nw_aload_n C dX12_figures_0 rfl 0 rfl ?_
  refine nw_get (v := .int (σ.1 24)) C in_X12 0 ml_O rfl 24 (by decide) tw_1597 rfl mf_24 dX12_figures_1 ?_
  refine nw_if_le (tgt := 9) C dX12_figures_4 (by decide) h (fun _ h => ?_) (fun _ h => ?_)
  · refine nw_aload_n C dX12_figures_9 rfl 0 rfl ?_
    refine nm_callVV (q0 := 0) (As := []) (rest := []) C h (fun _ _ e => c_M_blanks e) tw_2021 kv_X12_blanks ml_O rfl ⟨Nat.le_of_ble_eq_true rfl, Nat.le_of_ble_eq_true rfl⟩ rfl dX12_figures_10 rfl (Nat.le_of_ble_eq_true rfl) (fun r10 σ10 h => ?_)
    refine nw_aload_n C dX12_figures_13 rfl 0 rfl ?_
    refine nw_get (v := .int (σ10.1 23)) C in_X12 0 ml_O rfl 23 (by decide) tw_1596 rfl mf_23 dX12_figures_14 ?_
    refine nw_istore_n (lv' := [(3, .int (σ10.1 23)), (0, .ref (am 112)), (1, .int p0), (2, .int p1)]) C dX12_figures_17 rfl (by decide) rfl ?_
    refine nw_iconst (v := 0) C dX12_figures_18 (by decide) ?_
    refine nw_istore (lv' := [(4, .int 0), (3, .int (σ10.1 23)), (0, .ref (am 112)), (1, .int p0), (2, .int p1)]) C dX12_figures_19 (by decide) rfl ?_
    refine nw_aload_n C dX12_figures_21 rfl 2 rfl ?_
    refine nw_aload_n C dX12_figures_22 rfl 2 rfl ?_
    refine nw_get (v := .int (σ10.1 23)) C in_X12 0 ml_O rfl 23 (by decide) tw_1596 rfl mf_23 dX12_figures_23 ?_
    refine nm_callVI (q0 := 0) (As := [.int (σ10.1 23)]) (rest := []) C h (fun _ _ e => c_M_byteAt e) tw_2025 kv_X12_byteAt ml_O rfl ⟨Nat.le_of_ble_eq_true rfl, Nat.le_of_ble_eq_true rfl⟩ rfl dX12_figures_26 rfl (Nat.le_of_ble_eq_true rfl) (fun r26 σ26 h => ?_)
    refine nm_callSI  (As := [.int r26]) (rest := []) C h (fun _ _ e => c_M_isDigit e) tw_2091 ks_X12_isDigit ⟨Nat.le_of_ble_eq_true rfl, Nat.le_of_ble_eq_true rfl⟩ rfl dX12_figures_29 rfl (Nat.le_of_ble_eq_true rfl) (fun r29 σ29 h => ?_)
    refine nw_if_ne (tgt := 46) C dX12_figures_32 (by decide) h (fun _ h => ?_) (fun _ h => ?_)
    · refine nw_aload_n C dX12_figures_35 rfl 2 rfl ?_
      refine nw_iconst (v := 1) C dX12_figures_36 (by decide) ?_
      refine nw_aload_n C dX12_figures_37 rfl 2 rfl ?_
      refine nw_get (v := .int (σ29.1 23)) C in_X12 0 ml_O rfl 23 (by decide) tw_1596 rfl mf_23 dX12_figures_38 ?_
      refine nm_callVV (q0 := 0) (As := [.int 1, .int (σ29.1 23)]) (rest := []) C h (fun _ _ e => c_M_wrong e) tw_2050 kv_X12_wrong ml_O rfl ⟨Nat.le_of_ble_eq_true rfl, Nat.le_of_ble_eq_true rfl⟩ rfl dX12_figures_41 rfl (Nat.le_of_ble_eq_true rfl) (fun r41 σ41 h => ?_)
      refine nw_iconst (v := 0) C dX12_figures_44 (by decide) ?_
      exact nm_iret C hr dX12_figures_45 h
    · exact nw_lv (lv' := [(0, .ref (am 112)), (1, .int p0), (2, .int p1), (3, .int (σ10.1 23)), (4, .int 0)]) [2, 3, 4, 1, 0] rfl (w_M_figures_46 C hr p0 p1 (σ10.1 23) (fun x1_ x2_ x3_ x4_ σ_ h_ => w_M_figures_105 C hr x1_ x2_ x3_ x4_ σ_ h_) FU 0 _ h)
  · refine nw_iconst (v := 0) C dX12_figures_7 (by decide) ?_
    exact nm_iret C hr dX12_figures_8 h
theorem dX12_sign_0 : decode cX12_sign 0 = .ok (.aload_n 0, 1) := by decide +kernel
theorem dX12_sign_1 : decode cX12_sign 1 = .ok (.getfield 349, 3) := by decide +kernel
theorem dX12_sign_4 : decode cX12_sign 4 = .ok (.ifCond .le 4, 3) := by decide +kernel
theorem dX12_sign_7 : decode cX12_sign 7 = .ok (.return_, 1) := by decide +kernel
theorem dX12_sign_8 : decode cX12_sign 8 = .ok (.aload_n 0, 1) := by decide +kernel
theorem dX12_sign_9 : decode cX12_sign 9 = .ok (.invokevirtual 352, 3) := by decide +kernel
theorem dX12_sign_12 : decode cX12_sign 12 = .ok (.aload_n 0, 1) := by decide +kernel
theorem dX12_sign_13 : decode cX12_sign 13 = .ok (.getfield 343, 3) := by decide +kernel
theorem dX12_sign_16 : decode cX12_sign 16 = .ok (.aload_n 0, 1) := by decide +kernel
theorem dX12_sign_17 : decode cX12_sign 17 = .ok (.getfield 341, 3) := by decide +kernel
theorem dX12_sign_20 : decode cX12_sign 20 = .ok (.if_icmp .ge 28, 3) := by decide +kernel
theorem dX12_sign_23 : decode cX12_sign 23 = .ok (.aload_n 0, 1) := by decide +kernel
theorem dX12_sign_24 : decode cX12_sign 24 = .ok (.aload_n 0, 1) := by decide +kernel
theorem dX12_sign_25 : decode cX12_sign 25 = .ok (.getfield 343, 3) := by decide +kernel
theorem dX12_sign_28 : decode cX12_sign 28 = .ok (.invokevirtual 346, 3) := by decide +kernel
theorem dX12_sign_31 : decode cX12_sign 31 = .ok (.iload_n 1, 1) := by decide +kernel
theorem dX12_sign_32 : decode cX12_sign 32 = .ok (.if_icmp .ne 16, 3) := by decide +kernel
theorem dX12_sign_35 : decode cX12_sign 35 = .ok (.aload_n 0, 1) := by decide +kernel
theorem dX12_sign_36 : decode cX12_sign 36 = .ok (.dup, 1) := by decide +kernel
theorem dX12_sign_37 : decode cX12_sign 37 = .ok (.getfield 343, 3) := by decide +kernel
theorem dX12_sign_40 : decode cX12_sign 40 = .ok (.iconst 1, 1) := by decide +kernel
theorem dX12_sign_41 : decode cX12_sign 41 = .ok (.iadd, 1) := by decide +kernel
theorem dX12_sign_42 : decode cX12_sign 42 = .ok (.putfield 343, 3) := by decide +kernel
theorem dX12_sign_45 : decode cX12_sign 45 = .ok (.goto 12, 3) := by decide +kernel
theorem dX12_sign_48 : decode cX12_sign 48 = .ok (.aload_n 0, 1) := by decide +kernel
theorem dX12_sign_49 : decode cX12_sign 49 = .ok (.iconst 1, 1) := by decide +kernel
theorem dX12_sign_50 : decode cX12_sign 50 = .ok (.aload_n 0, 1) := by decide +kernel
theorem dX12_sign_51 : decode cX12_sign 51 = .ok (.getfield 343, 3) := by decide +kernel
theorem dX12_sign_54 : decode cX12_sign 54 = .ok (.invokevirtual 416, 3) := by decide +kernel
theorem dX12_sign_57 : decode cX12_sign 57 = .ok (.return_, 1) := by decide +kernel
def B_M_sign_48    (σ : CS) : Option (Int32 × CS) := bnd (f_M_wrong 1 (σ.1 23) σ) (fun _ σ54 => some (0, σ54))
set_option maxHeartbeats 4000000 in
set_option maxRecDepth 100000 in
theorem w_M_sign_48 (C : Cx g p s m args meth c A 2 cX12_sign yX12_sign.cls) (hr : meth.sig.returnType = none)  {res : Int32 × CS}     (σ : CS) (h : B_M_sign_48 σ = some res) : NMV g p l e s m args below meth c A 2 41 2 am Rr res σ [(0, .ref (am 112))] 48 [] := by
  unfold B_M_sign_48 at h
  refine nw_aload_n C dX12_sign_48 rfl 0 rfl ?_
  refine nw_iconst (v := 1) C dX12_sign_49 (by decide) ?_
  refine nw_aload_n C dX12_sign_50 rfl 0 rfl ?_
  refine nw_get (v := .int (σ.1 23)) C in_X12 0 ml_O rfl 23 (by decide) tw_1596 rfl mf_23 dX12_sign_51 ?_
  refine nm_callVV (q0 := 0) (As := [.int 1, .int (σ.1 23)]) (rest := []) C h (fun _ _ e => c_M_wrong e) tw_2050 kv_X12_wrong ml_O rfl ⟨Nat.le_of_ble_eq_true rfl, Nat.le_of_ble_eq_true rfl⟩ rfl dX12_sign_54 rfl (Nat.le_of_ble_eq_true rfl) (fun r54 σ54 h => ?_)
  exact nm_vret C hr dX12_sign_57 h
def f_M_sign (p0 : Int32) (σ : CS) : Option (Int32 × CS) := if (σ.1 24) ≤ 0 then bnd (f_M_blanks σ) (fun _ σ9 => if (σ9.1 22) ≤ (σ9.1 23) then B_M_sign_48 σ9 else bnd (f_M_byteAt (σ9.1 23) σ9) (fun r28 σ28 => if r28 = p0 then some (0, (sF σ28 23 ((σ28.1 23) + 1))) else B_M_sign_48 σ28)) else some (0, σ)
set_option maxHeartbeats 4000000 in
set_option maxRecDepth 100000 in
theorem c_M_sign {l : Launch} {g : EG} {am : Nat → Nat} {Rr : va_W} {σ σ' : CS} {r : Int32} {p0 : Int32}  (h : f_M_sign p0 σ = some (r, σ')) : CmV l g yX12_sign (.code yX12_sign cX12_sign 2 none) 2 41 am Rr σ [.ref (am 112), .int p0] r σ' := by
  refine Ct.of rfl (by decide) (Nat.le_of_ble_eq_true rfl) ?_
  intro p e s m args below meth c A C hr
  show NMV g p l e s m args below meth c A 2 41 2 am Rr (r, σ') σ [(0, .ref (am 112)), (1, .int p0)] 0 []
  unfold f_M_sign at h
  refine nw_aload_n C dX12_sign_0 rfl 0 rfl ?_
  refine nw_get (v := .int (σ.1 24)) C in_X12 0 ml_O rfl 24 (by decide) tw_1597 rfl mf_24 dX12_sign_1 ?_
  refine nw_if_le (tgt := 8) C dX12_sign_4 (by decide) h (fun _ h => ?_) (fun _ h => ?_)
  · refine nw_aload_n C dX12_sign_8 rfl 0 rfl ?_
    refine nm_callVV (q0 := 0) (As := []) (rest := []) C h (fun _ _ e => c_M_blanks e) tw_2021 kv_X12_blanks ml_O rfl ⟨Nat.le_of_ble_eq_true rfl, Nat.le_of_ble_eq_true rfl⟩ rfl dX12_sign_9 rfl (Nat.le_of_ble_eq_true rfl) (fun r9 σ9 h => ?_)
    refine nw_aload_n C dX12_sign_12 rfl 0 rfl ?_
    refine nw_get (v := .int (σ9.1 23)) C in_X12 0 ml_O rfl 23 (by decide) tw_1596 rfl mf_23 dX12_sign_13 ?_
    refine nw_aload_n C dX12_sign_16 rfl 0 rfl ?_
    refine nw_get (v := .int (σ9.1 22)) C in_X12 0 ml_O rfl 22 (by decide) tw_1595 rfl mf_22 dX12_sign_17 ?_
    refine nw_icmp_ge (tgt := 48) C dX12_sign_20 (by decide) h (fun _ h => ?_) (fun _ h => ?_)
    · exact nw_lv (lv' := [(0, .ref (am 112))]) [0] rfl (w_M_sign_48 C hr _ h)
    · refine nw_aload_n C dX12_sign_23 rfl 0 rfl ?_
      refine nw_aload_n C dX12_sign_24 rfl 0 rfl ?_
      refine nw_get (v := .int (σ9.1 23)) C in_X12 0 ml_O rfl 23 (by decide) tw_1596 rfl mf_23 dX12_sign_25 ?_
      refine nm_callVI (q0 := 0) (As := [.int (σ9.1 23)]) (rest := []) C h (fun _ _ e => c_M_byteAt e) tw_2025 kv_X12_byteAt ml_O rfl ⟨Nat.le_of_ble_eq_true rfl, Nat.le_of_ble_eq_true rfl⟩ rfl dX12_sign_28 rfl (Nat.le_of_ble_eq_true rfl) (fun r28 σ28 h => ?_)
      refine nw_iload_n C dX12_sign_31 rfl 1 rfl ?_
      refine nw_icmp_ne (tgt := 48) C dX12_sign_32 (by decide) h (fun _ h => ?_) (fun _ h => ?_)
      · refine nw_aload_n C dX12_sign_35 rfl 0 rfl ?_
        refine nw_dup C dX12_sign_36 rfl ?_
        refine nw_get (v := .int (σ28.1 23)) C in_X12 0 ml_O rfl 23 (by decide) tw_1596 rfl mf_23 dX12_sign_37 ?_
        refine nw_iconst (v := 1) C dX12_sign_40 (by decide) ?_
        refine nw_iadd C dX12_sign_41 ?_
        refine nw_put (ty := .int) C in_X12 0 ml_O rfl 23 (by decide) tyX12 tyX12_ok nmX12 tw_1596 rfl rfl (by decide +kernel) rfl rfl (Nat.le_of_ble_eq_true rfl) dX12_sign_42 ms_23 ?_
        refine nw_goto (tgt := 57) C dX12_sign_45 (by decide) ?_
        exact nm_vret C hr dX12_sign_57 h
      · exact nw_lv (lv' := [(0, .ref (am 112))]) [0] rfl (w_M_sign_48 C hr _ h)
  · exact nm_vret C hr dX12_sign_7 h
theorem dX12_emits_0 : decode cX12_emits 0 = .ok (.aload_n 0, 1) := by decide +kernel
theorem dX12_emits_1 : decode cX12_emits 1 = .ok (.getfield 349, 3) := by decide +kernel
theorem dX12_emits_4 : decode cX12_emits 4 = .ok (.ifCond .le 4, 3) := by decide +kernel
theorem dX12_emits_7 : decode cX12_emits 7 = .ok (.return_, 1) := by decide +kernel
theorem dX12_emits_8 : decode cX12_emits 8 = .ok (.aload_n 0, 1) := by decide +kernel
theorem dX12_emits_9 : decode cX12_emits 9 = .ok (.getfield 69, 3) := by decide +kernel
theorem dX12_emits_12 : decode cX12_emits 12 = .ok (.sipush 450, 3) := by decide +kernel
theorem dX12_emits_15 : decode cX12_emits 15 = .ok (.aload_n 0, 1) := by decide +kernel
theorem dX12_emits_16 : decode cX12_emits 16 = .ok (.getfield 422, 3) := by decide +kernel
theorem dX12_emits_19 : decode cX12_emits 19 = .ok (.imul, 1) := by decide +kernel
theorem dX12_emits_20 : decode cX12_emits 20 = .ok (.aload_n 0, 1) := by decide +kernel
theorem dX12_emits_21 : decode cX12_emits 21 = .ok (.getfield 425, 3) := by decide +kernel
theorem dX12_emits_24 : decode cX12_emits 24 = .ok (.iadd, 1) := by decide +kernel
theorem dX12_emits_25 : decode cX12_emits 25 = .ok (.iload_n 1, 1) := by decide +kernel
theorem dX12_emits_26 : decode cX12_emits 26 = .ok (.iastore, 1) := by decide +kernel
theorem dX12_emits_27 : decode cX12_emits 27 = .ok (.aload_n 0, 1) := by decide +kernel
theorem dX12_emits_28 : decode cX12_emits 28 = .ok (.getfield 72, 3) := by decide +kernel
theorem dX12_emits_31 : decode cX12_emits 31 = .ok (.sipush 450, 3) := by decide +kernel
theorem dX12_emits_34 : decode cX12_emits 34 = .ok (.aload_n 0, 1) := by decide +kernel
theorem dX12_emits_35 : decode cX12_emits 35 = .ok (.getfield 422, 3) := by decide +kernel
theorem dX12_emits_38 : decode cX12_emits 38 = .ok (.imul, 1) := by decide +kernel
theorem dX12_emits_39 : decode cX12_emits 39 = .ok (.aload_n 0, 1) := by decide +kernel
theorem dX12_emits_40 : decode cX12_emits 40 = .ok (.getfield 425, 3) := by decide +kernel
theorem dX12_emits_43 : decode cX12_emits 43 = .ok (.iadd, 1) := by decide +kernel
theorem dX12_emits_44 : decode cX12_emits 44 = .ok (.iload_n 2, 1) := by decide +kernel
theorem dX12_emits_45 : decode cX12_emits 45 = .ok (.iastore, 1) := by decide +kernel
theorem dX12_emits_46 : decode cX12_emits 46 = .ok (.aload_n 0, 1) := by decide +kernel
theorem dX12_emits_47 : decode cX12_emits 47 = .ok (.dup, 1) := by decide +kernel
theorem dX12_emits_48 : decode cX12_emits 48 = .ok (.getfield 425, 3) := by decide +kernel
theorem dX12_emits_51 : decode cX12_emits 51 = .ok (.iconst 1, 1) := by decide +kernel
theorem dX12_emits_52 : decode cX12_emits 52 = .ok (.iadd, 1) := by decide +kernel
theorem dX12_emits_53 : decode cX12_emits 53 = .ok (.putfield 425, 3) := by decide +kernel
theorem dX12_emits_56 : decode cX12_emits 56 = .ok (.return_, 1) := by decide +kernel
def f_M_emits (p0 : Int32) (p1 : Int32) (σ : CS) : Option (Int32 × CS) := if (σ.1 24) ≤ 0 then gix ((450 * (σ.1 21)) + (σ.1 27)) 4500 (gix ((450 * (σ.1 21)) + (σ.1 27)) 4500 (some (0, (sF (wr (wr σ 35 ((450 * (σ.1 21)) + (σ.1 27)) p0) 36 ((450 * (σ.1 21)) + (σ.1 27)) p1) 27 ((σ.1 27) + 1))))) else some (0, σ)
set_option maxHeartbeats 4000000 in
set_option maxRecDepth 100000 in
theorem c_M_emits {l : Launch} {g : EG} {am : Nat → Nat} {Rr : va_W} {σ σ' : CS} {r : Int32} {p0 : Int32} {p1 : Int32}  (h : f_M_emits p0 p1 σ = some (r, σ')) : CmV l g yX12_emits (.code yX12_emits cX12_emits 3 none) 0 0 am Rr σ [.ref (am 112), .int p0, .int p1] r σ' := by
  refine Ct.of rfl (by decide) (Nat.le_of_ble_eq_true rfl) ?_
  intro p e s m args below meth c A C hr
  show NMV g p l e s m args below meth c A 0 0 3 am Rr (r, σ') σ [(0, .ref (am 112)), (1, .int p0), (2, .int p1)] 0 []
  unfold f_M_emits at h
  refine nw_aload_n C dX12_emits_0 rfl 0 rfl ?_
  refine nw_get (v := .int (σ.1 24)) C in_X12 0 ml_O rfl 24 (by decide) tw_1597 rfl mf_24 dX12_emits_1 ?_
  refine nw_if_le (tgt := 8) C dX12_emits_4 (by decide) h (fun _ h => ?_) (fun _ h => ?_)
  · refine nw_aload_n C dX12_emits_8 rfl 0 rfl ?_
    refine nw_get (v := .ref (am 35)) C in_X12 0 ml_O rfl 35 (by decide) tw_1608 rfl mf_35 dX12_emits_9 ?_
    refine nw_sipush (v := 450) C dX12_emits_12 (by decide) ?_
    refine nw_aload_n C dX12_emits_15 rfl 0 rfl ?_
    refine nw_get (v := .int (σ.1 21)) C in_X12 0 ml_O rfl 21 (by decide) tw_1594 rfl mf_21 dX12_emits_16 ?_
    refine nw_imul C dX12_emits_19 ?_
    refine nw_aload_n C dX12_emits_20 rfl 0 rfl ?_
    refine nw_get (v := .int (σ.1 27)) C in_X12 0 ml_O rfl 27 (by decide) tw_1600 rfl mf_27 dX12_emits_21 ?_
    refine nw_iadd C dX12_emits_24 ?_
    refine nw_iload_n C dX12_emits_25 rfl 1 rfl ?_
    refine nw_iast C 19 ml_35 dX12_emits_26 h ms_35 (fun h => ?_)
    refine nw_aload_n C dX12_emits_27 rfl 0 rfl ?_
    refine nw_get (v := .ref (am 36)) C in_X12 0 ml_O rfl 36 (by decide) tw_1609 rfl mf_36 dX12_emits_28 ?_
    refine nw_sipush (v := 450) C dX12_emits_31 (by decide) ?_
    refine nw_aload_n C dX12_emits_34 rfl 0 rfl ?_
    refine nw_get (v := .int (σ.1 21)) C in_X12 0 ml_O rfl 21 (by decide) tw_1594 rfl rfl dX12_emits_35 ?_
    refine nw_imul C dX12_emits_38 ?_
    refine nw_aload_n C dX12_emits_39 rfl 0 rfl ?_
    refine nw_get (v := .int (σ.1 27)) C in_X12 0 ml_O rfl 27 (by decide) tw_1600 rfl rfl dX12_emits_40 ?_
    refine nw_iadd C dX12_emits_43 ?_
    refine nw_iload_n C dX12_emits_44 rfl 2 rfl ?_
    refine nw_iast C 20 ml_36 dX12_emits_45 h ms_36 (fun h => ?_)
    refine nw_aload_n C dX12_emits_46 rfl 0 rfl ?_
    refine nw_dup C dX12_emits_47 rfl ?_
    refine nw_get (v := .int (σ.1 27)) C in_X12 0 ml_O rfl 27 (by decide) tw_1600 rfl rfl dX12_emits_48 ?_
    refine nw_iconst (v := 1) C dX12_emits_51 (by decide) ?_
    refine nw_iadd C dX12_emits_52 ?_
    refine nw_put (ty := .int) C in_X12 0 ml_O rfl 27 (by decide) tyX12 tyX12_ok nmX12 tw_1600 rfl rfl (by decide +kernel) rfl rfl (Nat.le_of_ble_eq_true rfl) dX12_emits_53 ms_27 ?_
    exact nm_vret C hr dX12_emits_56 h
  · exact nm_vret C hr dX12_emits_7 h
theorem dX12_opens_0 : decode cX12_opens 0 = .ok (.aload_n 0, 1) := by decide +kernel
theorem dX12_opens_1 : decode cX12_opens 1 = .ok (.getfield 428, 3) := by decide +kernel
theorem dX12_opens_4 : decode cX12_opens 4 = .ok (.bipush 8, 2) := by decide +kernel
theorem dX12_opens_6 : decode cX12_opens 6 = .ok (.if_icmp .ne 12, 3) := by decide +kernel
theorem dX12_opens_9 : decode cX12_opens 9 = .ok (.aload_n 0, 1) := by decide +kernel
theorem dX12_opens_10 : decode cX12_opens 10 = .ok (.iconst 3, 1) := by decide +kernel
theorem dX12_opens_11 : decode cX12_opens 11 = .ok (.aload_n 0, 1) := by decide +kernel
theorem dX12_opens_12 : decode cX12_opens 12 = .ok (.getfield 343, 3) := by decide +kernel
theorem dX12_opens_15 : decode cX12_opens 15 = .ok (.invokevirtual 416, 3) := by decide +kernel
theorem dX12_opens_18 : decode cX12_opens 18 = .ok (.aload_n 0, 1) := by decide +kernel
theorem dX12_opens_19 : decode cX12_opens 19 = .ok (.dup, 1) := by decide +kernel
theorem dX12_opens_20 : decode cX12_opens 20 = .ok (.getfield 428, 3) := by decide +kernel
theorem dX12_opens_23 : decode cX12_opens 23 = .ok (.iconst 1, 1) := by decide +kernel
theorem dX12_opens_24 : decode cX12_opens 24 = .ok (.iadd, 1) := by decide +kernel
theorem dX12_opens_25 : decode cX12_opens 25 = .ok (.putfield 428, 3) := by decide +kernel
theorem dX12_opens_28 : decode cX12_opens 28 = .ok (.aload_n 0, 1) := by decide +kernel
theorem dX12_opens_29 : decode cX12_opens 29 = .ok (.dup, 1) := by decide +kernel
theorem dX12_opens_30 : decode cX12_opens 30 = .ok (.getfield 343, 3) := by decide +kernel
theorem dX12_opens_33 : decode cX12_opens 33 = .ok (.iload_n 1, 1) := by decide +kernel
theorem dX12_opens_34 : decode cX12_opens 34 = .ok (.iadd, 1) := by decide +kernel
theorem dX12_opens_35 : decode cX12_opens 35 = .ok (.putfield 343, 3) := by decide +kernel
theorem dX12_opens_38 : decode cX12_opens 38 = .ok (.return_, 1) := by decide +kernel
def B_M_opens_18   (x1 : Int32) (σ : CS) : Option (Int32 × CS) := some (0, (sF (sF σ 26 ((σ.1 26) + 1)) 23 ((σ.1 23) + x1)))
set_option maxHeartbeats 4000000 in
set_option maxRecDepth 100000 in
theorem w_M_opens_18 (C : Cx g p s m args meth c A 2 cX12_opens yX12_opens.cls) (hr : meth.sig.returnType = none)  {res : Int32 × CS}   (x1 : Int32)  (σ : CS) (h : B_M_opens_18 x1 σ = some res) : NMV g p l e s m args below meth c A 1 22 2 am Rr res σ [(0, .ref (am 112)), (1, .int x1)] 18 [] := by
  unfold B_M_opens_18 at h
  refine nw_aload_n C dX12_opens_18 rfl 0 rfl ?_
  refine nw_dup C dX12_opens_19 rfl ?_
  refine nw_get (v := .int (σ.1 26)) C in_X12 0 ml_O rfl 26 (by decide) tw_1599 rfl mf_26 dX12_opens_20 ?_
  refine nw_iconst (v := 1) C dX12_opens_23 (by decide) ?_
  refine nw_iadd C dX12_opens_24 ?_
  refine nw_put (ty := .int) C in_X12 0 ml_O rfl 26 (by decide) tyX12 tyX12_ok nmX12 tw_1599 rfl rfl (by decide +kernel) rfl rfl (Nat.le_of_ble_eq_true rfl) dX12_opens_25 ms_26 ?_
  refine nw_aload_n C dX12_opens_28 rfl 0 rfl ?_
  refine nw_dup C dX12_opens_29 rfl ?_
  refine nw_get (v := .int (σ.1 23)) C in_X12 0 ml_O rfl 23 (by decide) tw_1596 rfl rfl dX12_opens_30 ?_
  refine nw_iload_n C dX12_opens_33 rfl 1 rfl ?_
  refine nw_iadd C dX12_opens_34 ?_
  refine nw_put (ty := .int) C in_X12 0 ml_O rfl 23 (by decide) tyX12 tyX12_ok nmX12 tw_1596 rfl rfl (by decide +kernel) rfl rfl (Nat.le_of_ble_eq_true rfl) dX12_opens_35 ms_23 ?_
  exact nm_vret C hr dX12_opens_38 h
def f_M_opens (p0 : Int32) (σ : CS) : Option (Int32 × CS) := if (σ.1 26) = 8 then bnd (f_M_wrong 3 (σ.1 23) σ) (fun _ σ15 => B_M_opens_18 p0 σ15) else B_M_opens_18 p0 σ
set_option maxHeartbeats 4000000 in
set_option maxRecDepth 100000 in
theorem c_M_opens {l : Launch} {g : EG} {am : Nat → Nat} {Rr : va_W} {σ σ' : CS} {r : Int32} {p0 : Int32}  (h : f_M_opens p0 σ = some (r, σ')) : CmV l g yX12_opens (.code yX12_opens cX12_opens 2 none) 1 22 am Rr σ [.ref (am 112), .int p0] r σ' := by
  refine Ct.of rfl (by decide) (Nat.le_of_ble_eq_true rfl) ?_
  intro p e s m args below meth c A C hr
  show NMV g p l e s m args below meth c A 1 22 2 am Rr (r, σ') σ [(0, .ref (am 112)), (1, .int p0)] 0 []
  unfold f_M_opens at h
  refine nw_aload_n C dX12_opens_0 rfl 0 rfl ?_
  refine nw_get (v := .int (σ.1 26)) C in_X12 0 ml_O rfl 26 (by decide) tw_1599 rfl mf_26 dX12_opens_1 ?_
  refine nw_bipush (v := 8) C dX12_opens_4 (by decide) ?_
  refine nw_icmp_ne (tgt := 18) C dX12_opens_6 (by decide) h (fun _ h => ?_) (fun _ h => ?_)
  · refine nw_aload_n C dX12_opens_9 rfl 0 rfl ?_
    refine nw_iconst (v := 3) C dX12_opens_10 (by decide) ?_
    refine nw_aload_n C dX12_opens_11 rfl 0 rfl ?_
    refine nw_get (v := .int (σ.1 23)) C in_X12 0 ml_O rfl 23 (by decide) tw_1596 rfl mf_23 dX12_opens_12 ?_
    refine nm_callVV (q0 := 0) (As := [.int 3, .int (σ.1 23)]) (rest := []) C h (fun _ _ e => c_M_wrong e) tw_2050 kv_X12_wrong ml_O rfl ⟨Nat.le_of_ble_eq_true rfl, Nat.le_of_ble_eq_true rfl⟩ rfl dX12_opens_15 rfl (Nat.le_of_ble_eq_true rfl) (fun r15 σ15 h => ?_)
    exact nw_lv (lv' := [(0, .ref (am 112)), (1, .int p0)]) [0, 1] rfl (w_M_opens_18 C hr p0 _ h)
  · exact nw_lv (lv' := [(0, .ref (am 112)), (1, .int p0)]) [0, 1] rfl (w_M_opens_18 C hr p0 _ h)
theorem dX12_closes_0 : decode cX12_closes 0 = .ok (.aload_n 0, 1) := by decide +kernel
theorem dX12_closes_1 : decode cX12_closes 1 = .ok (.iload_n 1, 1) := by decide +kernel
theorem dX12_closes_2 : decode cX12_closes 2 = .ok (.invokevirtual 431, 3) := by decide +kernel
theorem dX12_closes_5 : decode cX12_closes 5 = .ok (.aload_n 0, 1) := by decide +kernel
theorem dX12_closes_6 : decode cX12_closes 6 = .ok (.dup, 1) := by decide +kernel
theorem dX12_closes_7 : decode cX12_closes 7 = .ok (.getfield 428, 3) := by decide +kernel
theorem dX12_closes_10 : decode cX12_closes 10 = .ok (.iconst 1, 1) := by decide +kernel
theorem dX12_closes_11 : decode cX12_closes 11 = .ok (.isub, 1) := by decide +kernel
theorem dX12_closes_12 : decode cX12_closes 12 = .ok (.putfield 428, 3) := by decide +kernel
theorem dX12_closes_15 : decode cX12_closes 15 = .ok (.return_, 1) := by decide +kernel
def f_M_closes (p0 : Int32) (σ : CS) : Option (Int32 × CS) := bnd (f_M_sign p0 σ) (fun _ σ2 => some (0, (sF σ2 26 ((σ2.1 26) - 1))))
set_option maxHeartbeats 4000000 in
set_option maxRecDepth 100000 in
theorem c_M_closes {l : Launch} {g : EG} {am : Nat → Nat} {Rr : va_W} {σ σ' : CS} {r : Int32} {p0 : Int32}  (h : f_M_closes p0 σ = some (r, σ')) : CmV l g yX12_closes (.code yX12_closes cX12_closes 2 none) 3 62 am Rr σ [.ref (am 112), .int p0] r σ' := by
  refine Ct.of rfl (by decide) (Nat.le_of_ble_eq_true rfl) ?_
  intro p e s m args below meth c A C hr
  show NMV g p l e s m args below meth c A 3 62 2 am Rr (r, σ') σ [(0, .ref (am 112)), (1, .int p0)] 0 []
  unfold f_M_closes at h
  refine nw_aload_n C dX12_closes_0 rfl 0 rfl ?_
  refine nw_iload_n C dX12_closes_1 rfl 1 rfl ?_
  refine nm_callVV (q0 := 0) (As := [.int p0]) (rest := []) C h (fun _ _ e => c_M_sign e) tw_2075 kv_X12_sign ml_O rfl ⟨Nat.le_of_ble_eq_true rfl, Nat.le_of_ble_eq_true rfl⟩ rfl dX12_closes_2 rfl (Nat.le_of_ble_eq_true rfl) (fun r2 σ2 h => ?_)
  refine nw_aload_n C dX12_closes_5 rfl 0 rfl ?_
  refine nw_dup C dX12_closes_6 rfl ?_
  refine nw_get (v := .int (σ2.1 26)) C in_X12 0 ml_O rfl 26 (by decide) tw_1599 rfl mf_26 dX12_closes_7 ?_
  refine nw_iconst (v := 1) C dX12_closes_10 (by decide) ?_
  refine nw_isub C dX12_closes_11 ?_
  refine nw_put (ty := .int) C in_X12 0 ml_O rfl 26 (by decide) tyX12 tyX12_ok nmX12 tw_1599 rfl rfl (by decide +kernel) rfl rfl (Nat.le_of_ble_eq_true rfl) dX12_closes_12 ms_26 ?_
  exact nm_vret C hr dX12_closes_15 h
theorem dX12_unit_0 : decode cX12_unit 0 = .ok (.aload_n 0, 1) := by decide +kernel
theorem dX12_unit_1 : decode cX12_unit 1 = .ok (.getfield 349, 3) := by decide +kernel
theorem dX12_unit_4 : decode cX12_unit 4 = .ok (.ifCond .le 4, 3) := by decide +kernel
theorem dX12_unit_7 : decode cX12_unit 7 = .ok (.return_, 1) := by decide +kernel
theorem dX12_unit_8 : decode cX12_unit 8 = .ok (.aload_n 0, 1) := by decide +kernel
theorem dX12_unit_9 : decode cX12_unit 9 = .ok (.invokevirtual 352, 3) := by decide +kernel
theorem dX12_unit_12 : decode cX12_unit 12 = .ok (.aload_n 0, 1) := by decide +kernel
theorem dX12_unit_13 : decode cX12_unit 13 = .ok (.aload_n 0, 1) := by decide +kernel
theorem dX12_unit_14 : decode cX12_unit 14 = .ok (.getfield 343, 3) := by decide +kernel
theorem dX12_unit_17 : decode cX12_unit 17 = .ok (.invokevirtual 346, 3) := by decide +kernel
theorem dX12_unit_20 : decode cX12_unit 20 = .ok (.invokestatic 419, 3) := by decide +kernel
theorem dX12_unit_23 : decode cX12_unit 23 = .ok (.ifCond .eq 17, 3) := by decide +kernel
theorem dX12_unit_26 : decode cX12_unit 26 = .ok (.aload_n 0, 1) := by decide +kernel
theorem dX12_unit_27 : decode cX12_unit 27 = .ok (.iconst 0, 1) := by decide +kernel
theorem dX12_unit_28 : decode cX12_unit 28 = .ok (.aload_n 0, 1) := by decide +kernel
theorem dX12_unit_29 : decode cX12_unit 29 = .ok (.iconst 0, 1) := by decide +kernel
theorem dX12_unit_30 : decode cX12_unit 30 = .ok (.sipush 9999, 3) := by decide +kernel
theorem dX12_unit_33 : decode cX12_unit 33 = .ok (.invokevirtual 444, 3) := by decide +kernel
theorem dX12_unit_36 : decode cX12_unit 36 = .ok (.invokevirtual 438, 3) := by decide +kernel
theorem dX12_unit_39 : decode cX12_unit 39 = .ok (.return_, 1) := by decide +kernel
theorem dX12_unit_40 : decode cX12_unit 40 = .ok (.iconst 0, 1) := by decide +kernel
theorem dX12_unit_41 : decode cX12_unit 41 = .ok (.istore_n 1, 1) := by decide +kernel
theorem dX12_unit_42 : decode cX12_unit 42 = .ok (.iload_n 1, 1) := by decide +kernel
theorem dX12_unit_43 : decode cX12_unit 43 = .ok (.bipush 6, 2) := by decide +kernel
theorem dX12_unit_45 : decode cX12_unit 45 = .ok (.if_icmp .ge 30, 3) := by decide +kernel
theorem dX12_unit_48 : decode cX12_unit 48 = .ok (.aload_n 0, 1) := by decide +kernel
theorem dX12_unit_49 : decode cX12_unit 49 = .ok (.iload_n 1, 1) := by decide +kernel
theorem dX12_unit_50 : decode cX12_unit 50 = .ok (.invokestatic 448, 3) := by decide +kernel
theorem dX12_unit_53 : decode cX12_unit 53 = .ok (.invokevirtual 413, 3) := by decide +kernel
theorem dX12_unit_56 : decode cX12_unit 56 = .ok (.ifCond .ne 6, 3) := by decide +kernel
theorem dX12_unit_59 : decode cX12_unit 59 = .ok (.goto 10, 3) := by decide +kernel
theorem dX12_unit_62 : decode cX12_unit 62 = .ok (.aload_n 0, 1) := by decide +kernel
theorem dX12_unit_63 : decode cX12_unit 63 = .ok (.iconst 1, 1) := by decide +kernel
theorem dX12_unit_64 : decode cX12_unit 64 = .ok (.iload_n 1, 1) := by decide +kernel
theorem dX12_unit_65 : decode cX12_unit 65 = .ok (.invokevirtual 438, 3) := by decide +kernel
theorem dX12_unit_68 : decode cX12_unit 68 = .ok (.return_, 1) := by decide +kernel
theorem dX12_unit_69 : decode cX12_unit 69 = .ok (.iinc 1 1, 3) := by decide +kernel
theorem dX12_unit_72 : decode cX12_unit 72 = .ok (.goto (-30), 3) := by decide +kernel
theorem dX12_unit_75 : decode cX12_unit 75 = .ok (.aload_n 0, 1) := by decide +kernel
theorem dX12_unit_76 : decode cX12_unit 76 = .ok (.ldc_w 451, 3) := by decide +kernel
theorem dX12_unit_79 : decode cX12_unit 79 = .ok (.invokevirtual 413, 3) := by decide +kernel
theorem dX12_unit_82 : decode cX12_unit 82 = .ok (.istore_n 1, 1) := by decide +kernel
theorem dX12_unit_83 : decode cX12_unit 83 = .ok (.iload_n 1, 1) := by decide +kernel
theorem dX12_unit_84 : decode cX12_unit 84 = .ok (.ifCond .ne 17, 3) := by decide +kernel
theorem dX12_unit_87 : decode cX12_unit 87 = .ok (.aload_n 0, 1) := by decide +kernel
theorem dX12_unit_88 : decode cX12_unit 88 = .ok (.ldc_w 453, 3) := by decide +kernel
theorem dX12_unit_91 : decode cX12_unit 91 = .ok (.invokevirtual 413, 3) := by decide +kernel
theorem dX12_unit_94 : decode cX12_unit 94 = .ok (.ifCond .eq 7, 3) := by decide +kernel
theorem dX12_unit_97 : decode cX12_unit 97 = .ok (.iconst 1, 1) := by decide +kernel
theorem dX12_unit_98 : decode cX12_unit 98 = .ok (.goto 4, 3) := by decide +kernel
theorem dX12_unit_101 : decode cX12_unit 101 = .ok (.iconst 0, 1) := by decide +kernel
theorem dX12_unit_102 : decode cX12_unit 102 = .ok (.istore_n 2, 1) := by decide +kernel
theorem dX12_unit_103 : decode cX12_unit 103 = .ok (.aload_n 0, 1) := by decide +kernel
theorem dX12_unit_104 : decode cX12_unit 104 = .ok (.invokevirtual 352, 3) := by decide +kernel
theorem dX12_unit_107 : decode cX12_unit 107 = .ok (.aload_n 0, 1) := by decide +kernel
theorem dX12_unit_108 : decode cX12_unit 108 = .ok (.aload_n 0, 1) := by decide +kernel
theorem dX12_unit_109 : decode cX12_unit 109 = .ok (.getfield 343, 3) := by decide +kernel
theorem dX12_unit_112 : decode cX12_unit 112 = .ok (.invokevirtual 346, 3) := by decide +kernel
theorem dX12_unit_115 : decode cX12_unit 115 = .ok (.bipush 40, 2) := by decide +kernel
theorem dX12_unit_117 : decode cX12_unit 117 = .ok (.if_icmp .eq 13, 3) := by decide +kernel
theorem dX12_unit_120 : decode cX12_unit 120 = .ok (.aload_n 0, 1) := by decide +kernel
theorem dX12_unit_121 : decode cX12_unit 121 = .ok (.iconst 1, 1) := by decide +kernel
theorem dX12_unit_122 : decode cX12_unit 122 = .ok (.aload_n 0, 1) := by decide +kernel
theorem dX12_unit_123 : decode cX12_unit 123 = .ok (.getfield 343, 3) := by decide +kernel
theorem dX12_unit_126 : decode cX12_unit 126 = .ok (.invokevirtual 416, 3) := by decide +kernel
theorem dX12_unit_129 : decode cX12_unit 129 = .ok (.return_, 1) := by decide +kernel
theorem dX12_unit_130 : decode cX12_unit 130 = .ok (.aload_n 0, 1) := by decide +kernel
theorem dX12_unit_131 : decode cX12_unit 131 = .ok (.iconst 1, 1) := by decide +kernel
theorem dX12_unit_132 : decode cX12_unit 132 = .ok (.invokevirtual 455, 3) := by decide +kernel
theorem dX12_unit_135 : decode cX12_unit 135 = .ok (.aload_n 0, 1) := by decide +kernel
theorem dX12_unit_136 : decode cX12_unit 136 = .ok (.invokevirtual 458, 3) := by decide +kernel
theorem dX12_unit_139 : decode cX12_unit 139 = .ok (.iload_n 1, 1) := by decide +kernel
theorem dX12_unit_140 : decode cX12_unit 140 = .ok (.ifCond .ne 7, 3) := by decide +kernel
theorem dX12_unit_143 : decode cX12_unit 143 = .ok (.iload_n 2, 1) := by decide +kernel
theorem dX12_unit_144 : decode cX12_unit 144 = .ok (.ifCond .eq 13, 3) := by decide +kernel
theorem dX12_unit_147 : decode cX12_unit 147 = .ok (.aload_n 0, 1) := by decide +kernel
theorem dX12_unit_148 : decode cX12_unit 148 = .ok (.bipush 44, 2) := by decide +kernel
theorem dX12_unit_150 : decode cX12_unit 150 = .ok (.invokevirtual 431, 3) := by decide +kernel
theorem dX12_unit_153 : decode cX12_unit 153 = .ok (.aload_n 0, 1) := by decide +kernel
theorem dX12_unit_154 : decode cX12_unit 154 = .ok (.invokevirtual 458, 3) := by decide +kernel
theorem dX12_unit_157 : decode cX12_unit 157 = .ok (.aload_n 0, 1) := by decide +kernel
theorem dX12_unit_158 : decode cX12_unit 158 = .ok (.bipush 41, 2) := by decide +kernel
theorem dX12_unit_160 : decode cX12_unit 160 = .ok (.invokevirtual 461, 3) := by decide +kernel
theorem dX12_unit_163 : decode cX12_unit 163 = .ok (.iload_n 1, 1) := by decide +kernel
theorem dX12_unit_164 : decode cX12_unit 164 = .ok (.ifCond .ne 7, 3) := by decide +kernel
theorem dX12_unit_167 : decode cX12_unit 167 = .ok (.iload_n 2, 1) := by decide +kernel
theorem dX12_unit_168 : decode cX12_unit 168 = .ok (.ifCond .eq 19, 3) := by decide +kernel
theorem dX12_unit_171 : decode cX12_unit 171 = .ok (.aload_n 0, 1) := by decide +kernel
theorem dX12_unit_172 : decode cX12_unit 172 = .ok (.iload_n 1, 1) := by decide +kernel
theorem dX12_unit_173 : decode cX12_unit 173 = .ok (.ifCond .eq 8, 3) := by decide +kernel
theorem dX12_unit_176 : decode cX12_unit 176 = .ok (.bipush 6, 2) := by decide +kernel
theorem dX12_unit_178 : decode cX12_unit 178 = .ok (.goto 5, 3) := by decide +kernel
theorem dX12_unit_181 : decode cX12_unit 181 = .ok (.bipush 7, 2) := by decide +kernel
theorem dX12_unit_183 : decode cX12_unit 183 = .ok (.iconst 0, 1) := by decide +kernel
theorem dX12_unit_184 : decode cX12_unit 184 = .ok (.invokevirtual 438, 3) := by decide +kernel
theorem dX12_unit_187 : decode cX12_unit 187 = .ok (.return_, 1) := by decide +kernel
def L_M_unit_42 (rc : Nat → CS → Option (Int32 × CS)) (k62 : Int32 → CS → Option (Int32 × CS)) (k75 : CS → Option (Int32 × CS))  : Nat → Int32 → CS → Option (Int32 × CS)
  | 0, _, _ => none
  | n + 1, x1, σ => if 6 ≤ x1 then k75 σ else bnd (f_M_toldName x1 σ) (fun r50 σ50 => bnd (f_M_eat r50.toNatClampNeg σ50) (fun r53 σ53 => if r53 = 0 then (L_M_unit_42 rc k62 k75 n) (x1 + 1) σ53 else k62 x1 σ53))
set_option maxHeartbeats 4000000 in
set_option maxRecDepth 100000 in
theorem w_M_unit_42 (C : Cx g p s m args meth c A 3 cX12_unit yX12_unit.cls) (hr : meth.sig.returnType = none) {d : Nat} {rc : Nat → CS → Option (Int32 × CS)} (hrc0 : ∀ {l : Launch} {g : EG} {am : Nat → Nat} {Rr : va_W} {σ σ' : CS} {r : Int32}, rc 0  σ = some (r, σ') → CmV l g yX12_sum (.code yX12_sum cX12_sum 2 none) (10 * d) (400 * d) am Rr σ [.ref (am 112)] r σ') (hrc1 : ∀ {l : Launch} {g : EG} {am : Nat → Nat} {Rr : va_W} {σ σ' : CS} {r : Int32}, rc 1  σ = some (r, σ') → CmV l g yX12_product (.code yX12_product cX12_product 2 none) (10 * d) (400 * d) am Rr σ [.ref (am 112)] r σ') (hrc2 : ∀ {l : Launch} {g : EG} {am : Nat → Nat} {Rr : va_W} {σ σ' : CS} {r : Int32}, rc 2  σ = some (r, σ') → CmV l g yX12_unit (.code yX12_unit cX12_unit 3 none) (10 * d) (400 * d) am Rr σ [.ref (am 112)] r σ') (hrc3 : ∀ {l : Launch} {g : EG} {am : Nat → Nat} {Rr : va_W} {σ σ' : CS} {r : Int32}, rc 3  σ = some (r, σ') → CmV l g yX12_ors (.code yX12_ors cX12_ors 1 none) (10 * d) (400 * d) am Rr σ [.ref (am 112)] r σ') (hrc4 : ∀ {l : Launch} {g : EG} {am : Nat → Nat} {Rr : va_W} {σ σ' : CS} {r : Int32}, rc 4  σ = some (r, σ') → CmV l g yX12_ands (.code yX12_ands cX12_ands 1 none) (10 * d) (400 * d) am Rr σ [.ref (am 112)] r σ') (hrc5 : ∀ {l : Launch} {g : EG} {am : Nat → Nat} {Rr : va_W} {σ σ' : CS} {r : Int32}, rc 5  σ = some (r, σ') → CmV l g yX12_test (.code yX12_test cX12_test 2 none) (10 * d) (400 * d) am Rr σ [.ref (am 112)] r σ')  {res : Int32 × CS}   {k62 : Int32 → CS → Option (Int32 × CS)} (hk62 : ∀ (x1 : Int32) (σ : CS), k62 x1 σ = some res → NMV g p l e s m args below meth c A (10 * d + 10) (400 * d + 400) 3 am Rr res σ [(0, .ref (am 112)), (1, .int x1)] 62 []) {k75 : CS → Option (Int32 × CS)} (hk75 : ∀  (σ : CS), k75  σ = some res → NMV g p l e s m args below meth c A (10 * d + 10) (400 * d + 400) 3 am Rr res σ [(0, .ref (am 112))] 75 []) : ∀ (n : Nat) (x1 : Int32) (σ : CS), L_M_unit_42 rc k62 k75 n x1 σ = some res → NMV g p l e s m args below meth c A (10 * d + 10) (400 * d + 400) 3 am Rr res σ [(0, .ref (am 112)), (1, .int x1)] 42 [] := by
  intro n
  induction n with
  | zero =>
    intro x1 σ h
    exact absurd (show (none : Option (Int32 × CS)) = some res from h) (by intro h9; cases h9)
  | succ n ih =>
    intro x1 σ h
    rw [L_M_unit_42] at h
    refine nw_iload_n C dX12_unit_42 rfl 1 rfl ?_
    refine nw_bipush (v := 6) C dX12_unit_43 (by decide) ?_
    refine nw_icmp_ge (tgt := 75) C dX12_unit_45 (by decide) h (fun _ h => ?_) (fun _ h => ?_)
    · exact nw_lv (lv' := [(0, .ref (am 112))]) [0] rfl (hk75  _ h)
    · refine nw_aload_n C dX12_unit_48 rfl 0 rfl ?_
      refine nw_iload_n C dX12_unit_49 rfl 1 rfl ?_
      refine nm_callSS  (As := [.int x1]) (rest := [.ref (am 112)]) C h (fun _ _ e => c_M_toldName e) tw_2102 ks_X12_toldName ⟨by omega, by omega⟩ rfl dX12_unit_50 rfl (Nat.le_of_ble_eq_true rfl) (fun r50 σ50 hs50 h => ?_)
      refine nm_callVI (q0 := 0) (As := [.ref (gK g r50.toNatClampNeg)]) (rest := []) C h (fun _ _ e => c_M_eat r50.toNatClampNeg hs50 e) tw_2071 kv_X12_eat ml_O rfl ⟨by omega, by omega⟩ rfl dX12_unit_53 rfl (Nat.le_of_ble_eq_true rfl) (fun r53 σ53 h => ?_)
      refine nw_if_ne (tgt := 62) C dX12_unit_56 (by decide) h (fun _ h => ?_) (fun _ h => ?_)
      · refine nw_goto (tgt := 69) C dX12_unit_59 (by decide) ?_
        refine nw_iinc (lv' := [(1, .int (x1 + 1)), (0, .ref (am 112))]) C (x1 + 1) dX12_unit_69 1 rfl rfl (by decide) rfl ?_
        refine nw_goto (tgt := 42) C dX12_unit_72 (by decide) ?_
        exact nw_lv (lv' := [(0, .ref (am 112)), (1, .int (x1 + 1))]) [1, 0] rfl (ih (x1 + 1) _ h)
      · exact nw_lv (lv' := [(0, .ref (am 112)), (1, .int x1)]) [0, 1] rfl (hk62 x1 _ h)
def B_M_unit_62 (rc : Nat → CS → Option (Int32 × CS))   (x1 : Int32) (σ : CS) : Option (Int32 × CS) := bnd (f_M_emits 1 x1 σ) (fun _ σ65 => some (0, σ65))
set_option maxHeartbeats 4000000 in
set_option maxRecDepth 100000 in
theorem w_M_unit_62 (C : Cx g p s m args meth c A 3 cX12_unit yX12_unit.cls) (hr : meth.sig.returnType = none) {d : Nat} {rc : Nat → CS → Option (Int32 × CS)} (hrc0 : ∀ {l : Launch} {g : EG} {am : Nat → Nat} {Rr : va_W} {σ σ' : CS} {r : Int32}, rc 0  σ = some (r, σ') → CmV l g yX12_sum (.code yX12_sum cX12_sum 2 none) (10 * d) (400 * d) am Rr σ [.ref (am 112)] r σ') (hrc1 : ∀ {l : Launch} {g : EG} {am : Nat → Nat} {Rr : va_W} {σ σ' : CS} {r : Int32}, rc 1  σ = some (r, σ') → CmV l g yX12_product (.code yX12_product cX12_product 2 none) (10 * d) (400 * d) am Rr σ [.ref (am 112)] r σ') (hrc2 : ∀ {l : Launch} {g : EG} {am : Nat → Nat} {Rr : va_W} {σ σ' : CS} {r : Int32}, rc 2  σ = some (r, σ') → CmV l g yX12_unit (.code yX12_unit cX12_unit 3 none) (10 * d) (400 * d) am Rr σ [.ref (am 112)] r σ') (hrc3 : ∀ {l : Launch} {g : EG} {am : Nat → Nat} {Rr : va_W} {σ σ' : CS} {r : Int32}, rc 3  σ = some (r, σ') → CmV l g yX12_ors (.code yX12_ors cX12_ors 1 none) (10 * d) (400 * d) am Rr σ [.ref (am 112)] r σ') (hrc4 : ∀ {l : Launch} {g : EG} {am : Nat → Nat} {Rr : va_W} {σ σ' : CS} {r : Int32}, rc 4  σ = some (r, σ') → CmV l g yX12_ands (.code yX12_ands cX12_ands 1 none) (10 * d) (400 * d) am Rr σ [.ref (am 112)] r σ') (hrc5 : ∀ {l : Launch} {g : EG} {am : Nat → Nat} {Rr : va_W} {σ σ' : CS} {r : Int32}, rc 5  σ = some (r, σ') → CmV l g yX12_test (.code yX12_test cX12_test 2 none) (10 * d) (400 * d) am Rr σ [.ref (am 112)] r σ')  {res : Int32 × CS}   (x1 : Int32)  (σ : CS) (h : B_M_unit_62 rc x1 σ = some res) : NMV g p l e s m args below meth c A (10 * d + 10) (400 * d + 400) 3 am Rr res σ [(0, .ref (am 112)), (1, .int x1)] 62 [] := by
  unfold B_M_unit_62 at h
  refine nw_aload_n C dX12_unit_62 rfl 0 rfl ?_
  refine nw_iconst (v := 1) C dX12_unit_63 (by decide) ?_
  refine nw_iload_n C dX12_unit_64 rfl 1 rfl ?_
  refine nm_callVV (q0 := 0) (As := [.int 1, .int x1]) (rest := []) C h (fun _ _ e => c_M_emits e) tw_2098 kv_X12_emits ml_O rfl ⟨by omega, by omega⟩ rfl dX12_unit_65 rfl (Nat.le_of_ble_eq_true rfl) (fun r65 σ65 h => ?_)
  exact nm_vret C hr dX12_unit_68 h
def B_M_unit_183 (rc : Nat → CS → Option (Int32 × CS))   (z1 : Int32) (σ : CS) : Option (Int32 × CS) := bnd (f_M_emits z1 0 σ) (fun _ σ184 => some (0, σ184))
set_option maxHeartbeats 4000000 in
set_option maxRecDepth 100000 in
theorem w_M_unit_183 (C : Cx g p s m args meth c A 3 cX12_unit yX12_unit.cls) (hr : meth.sig.returnType = none) {d : Nat} {rc : Nat → CS → Option (Int32 × CS)} (hrc0 : ∀ {l : Launch} {g : EG} {am : Nat → Nat} {Rr : va_W} {σ σ' : CS} {r : Int32}, rc 0  σ = some (r, σ') → CmV l g yX12_sum (.code yX12_sum cX12_sum 2 none) (10 * d) (400 * d) am Rr σ [.ref (am 112)] r σ') (hrc1 : ∀ {l : Launch} {g : EG} {am : Nat → Nat} {Rr : va_W} {σ σ' : CS} {r : Int32}, rc 1  σ = some (r, σ') → CmV l g yX12_product (.code yX12_product cX12_product 2 none) (10 * d) (400 * d) am Rr σ [.ref (am 112)] r σ') (hrc2 : ∀ {l : Launch} {g : EG} {am : Nat → Nat} {Rr : va_W} {σ σ' : CS} {r : Int32}, rc 2  σ = some (r, σ') → CmV l g yX12_unit (.code yX12_unit cX12_unit 3 none) (10 * d) (400 * d) am Rr σ [.ref (am 112)] r σ') (hrc3 : ∀ {l : Launch} {g : EG} {am : Nat → Nat} {Rr : va_W} {σ σ' : CS} {r : Int32}, rc 3  σ = some (r, σ') → CmV l g yX12_ors (.code yX12_ors cX12_ors 1 none) (10 * d) (400 * d) am Rr σ [.ref (am 112)] r σ') (hrc4 : ∀ {l : Launch} {g : EG} {am : Nat → Nat} {Rr : va_W} {σ σ' : CS} {r : Int32}, rc 4  σ = some (r, σ') → CmV l g yX12_ands (.code yX12_ands cX12_ands 1 none) (10 * d) (400 * d) am Rr σ [.ref (am 112)] r σ') (hrc5 : ∀ {l : Launch} {g : EG} {am : Nat → Nat} {Rr : va_W} {σ σ' : CS} {r : Int32}, rc 5  σ = some (r, σ') → CmV l g yX12_test (.code yX12_test cX12_test 2 none) (10 * d) (400 * d) am Rr σ [.ref (am 112)] r σ')  {res : Int32 × CS}   (z1 : Int32)  (σ : CS) (h : B_M_unit_183 rc z1 σ = some res) : NMV g p l e s m args below meth c A (10 * d + 10) (400 * d + 400) 3 am Rr res σ [] 183 [.int z1, .ref (am 112)] := by
  unfold B_M_unit_183 at h
  refine nw_iconst (v := 0) C dX12_unit_183 (by decide) ?_
  refine nm_callVV (q0 := 0) (As := [.int z1, .int 0]) (rest := []) C h (fun _ _ e => c_M_emits e) tw_2098 kv_X12_emits ml_O rfl ⟨by omega, by omega⟩ rfl dX12_unit_184 rfl (Nat.le_of_ble_eq_true rfl) (fun r184 σ184 h => ?_)
  exact nm_vret C hr dX12_unit_187 h
def B_M_unit_171 (rc : Nat → CS → Option (Int32 × CS))   (x1 : Int32) (σ : CS) : Option (Int32 × CS) := if x1 = 0 then B_M_unit_183 rc 7 σ else B_M_unit_183 rc 6 σ
set_option maxHeartbeats 4000000 in
set_option maxRecDepth 100000 in
theorem w_M_unit_171 (C : Cx g p s m args meth c A 3 cX12_unit yX12_unit.cls) (hr : meth.sig.returnType = none) {d : Nat} {rc : Nat → CS → Option (Int32 × CS)} (hrc0 : ∀ {l : Launch} {g : EG} {am : Nat → Nat} {Rr : va_W} {σ σ' : CS} {r : Int32}, rc 0  σ = some (r, σ') → CmV l g yX12_sum (.code yX12_sum cX12_sum 2 none) (10 * d) (400 * d) am Rr σ [.ref (am 112)] r σ') (hrc1 : ∀ {l : Launch} {g : EG} {am : Nat → Nat} {Rr : va_W} {σ σ' : CS} {r : Int32}, rc 1  σ = some (r, σ') → CmV l g yX12_product (.code yX12_product cX12_product 2 none) (10 * d) (400 * d) am Rr σ [.ref (am 112)] r σ') (hrc2 : ∀ {l : Launch} {g : EG} {am : Nat → Nat} {Rr : va_W} {σ σ' : CS} {r : Int32}, rc 2  σ = some (r, σ') → CmV l g yX12_unit (.code yX12_unit cX12_unit 3 none) (10 * d) (400 * d) am Rr σ [.ref (am 112)] r σ') (hrc3 : ∀ {l : Launch} {g : EG} {am : Nat → Nat} {Rr : va_W} {σ σ' : CS} {r : Int32}, rc 3  σ = some (r, σ') → CmV l g yX12_ors (.code yX12_ors cX12_ors 1 none) (10 * d) (400 * d) am Rr σ [.ref (am 112)] r σ') (hrc4 : ∀ {l : Launch} {g : EG} {am : Nat → Nat} {Rr : va_W} {σ σ' : CS} {r : Int32}, rc 4  σ = some (r, σ') → CmV l g yX12_ands (.code yX12_ands cX12_ands 1 none) (10 * d) (400 * d) am Rr σ [.ref (am 112)] r σ') (hrc5 : ∀ {l : Launch} {g : EG} {am : Nat → Nat} {Rr : va_W} {σ σ' : CS} {r : Int32}, rc 5  σ = some (r, σ') → CmV l g yX12_test (.code yX12_test cX12_test 2 none) (10 * d) (400 * d) am Rr σ [.ref (am 112)] r σ')  {res : Int32 × CS}   (x1 : Int32)  (σ : CS) (h : B_M_unit_171 rc x1 σ = some res) : NMV g p l e s m args below meth c A (10 * d + 10) (400 * d + 400) 3 am Rr res σ [(0, .ref (am 112)), (1, .int x1)] 171 [] := by
  unfold B_M_unit_171 at h
  refine nw_aload_n C dX12_unit_171 rfl 0 rfl ?_
  refine nw_iload_n C dX12_unit_172 rfl 1 rfl ?_
  refine nw_if_eq (tgt := 181) C dX12_unit_173 (by decide) h (fun _ h => ?_) (fun _ h => ?_)
  · refine nw_bipush (v := 7) C dX12_unit_181 (by decide) ?_
    exact nw_lv (lv' := []) [] rfl (w_M_unit_183 C hr hrc0 hrc1 hrc2 hrc3 hrc4 hrc5 7 _ h)
  · refine nw_bipush (v := 6) C dX12_unit_176 (by decide) ?_
    refine nw_goto (tgt := 183) C dX12_unit_178 (by decide) ?_
    exact nw_lv (lv' := []) [] rfl (w_M_unit_183 C hr hrc0 hrc1 hrc2 hrc3 hrc4 hrc5 6 _ h)
def B_M_unit_157 (rc : Nat → CS → Option (Int32 × CS))   (x1 : Int32) (x2 : Int32) (σ : CS) : Option (Int32 × CS) := bnd (f_M_closes 41 σ) (fun _ σ160 => if x1 = 0 then if x2 = 0 then some (0, σ160) else B_M_unit_171 rc x1 σ160 else B_M_unit_171 rc x1 σ160)
set_option maxHeartbeats 4000000 in
set_option maxRecDepth 100000 in
theorem w_M_unit_157 (C : Cx g p s m args meth c A 3 cX12_unit yX12_unit.cls) (hr : meth.sig.returnType = none) {d : Nat} {rc : Nat → CS → Option (Int32 × CS)} (hrc0 : ∀ {l : Launch} {g : EG} {am : Nat → Nat} {Rr : va_W} {σ σ' : CS} {r : Int32}, rc 0  σ = some (r, σ') → CmV l g yX12_sum (.code yX12_sum cX12_sum 2 none) (10 * d) (400 * d) am Rr σ [.ref (am 112)] r σ') (hrc1 : ∀ {l : Launch} {g : EG} {am : Nat → Nat} {Rr : va_W} {σ σ' : CS} {r : Int32}, rc 1  σ = some (r, σ') → CmV l g yX12_product (.code yX12_product cX12_product 2 none) (10 * d) (400 * d) am Rr σ [.ref (am 112)] r σ') (hrc2 : ∀ {l : Launch} {g : EG} {am : Nat → Nat} {Rr : va_W} {σ σ' : CS} {r : Int32}, rc 2  σ = some (r, σ') → CmV l g yX12_unit (.code yX12_unit cX12_unit 3 none) (10 * d) (400 * d) am Rr σ [.ref (am 112)] r σ') (hrc3 : ∀ {l : Launch} {g : EG} {am : Nat → Nat} {Rr : va_W} {σ σ' : CS} {r : Int32}, rc 3  σ = some (r, σ') → CmV l g yX12_ors (.code yX12_ors cX12_ors 1 none) (10 * d) (400 * d) am Rr σ [.ref (am 112)] r σ') (hrc4 : ∀ {l : Launch} {g : EG} {am : Nat → Nat} {Rr : va_W} {σ σ' : CS} {r : Int32}, rc 4  σ = some (r, σ') → CmV l g yX12_ands (.code yX12_ands cX12_ands 1 none) (10 * d) (400 * d) am Rr σ [.ref (am 112)] r σ') (hrc5 : ∀ {l : Launch} {g : EG} {am : Nat → Nat} {Rr : va_W} {σ σ' : CS} {r : Int32}, rc 5  σ = some (r, σ') → CmV l g yX12_test (.code yX12_test cX12_test 2 none) (10 * d) (400 * d) am Rr σ [.ref (am 112)] r σ')  {res : Int32 × CS}   (x1 : Int32) (x2 : Int32)  (σ : CS) (h : B_M_unit_157 rc x1 x2 σ = some res) : NMV g p l e s m args below meth c A (10 * d + 10) (400 * d + 400) 3 am Rr res σ [(0, .ref (am 112)), (1, .int x1), (2, .int x2)] 157 [] := by
  unfold B_M_unit_157 at h
  refine nw_aload_n C dX12_unit_157 rfl 0 rfl ?_
  refine nw_bipush (v := 41) C dX12_unit_158 (by decide) ?_
  refine nm_callVV (q0 := 0) (As := [.int 41]) (rest := []) C h (fun _ _ e => c_M_closes e) tw_2117 kv_X12_closes ml_O rfl ⟨by omega, by omega⟩ rfl dX12_unit_160 rfl (Nat.le_of_ble_eq_true rfl) (fun r160 σ160 h => ?_)
  refine nw_iload_n C dX12_unit_163 rfl 1 rfl ?_
  refine nw_if_ne (tgt := 171) C dX12_unit_164 (by decide) h (fun _ h => ?_) (fun _ h => ?_)
  · refine nw_iload_n C dX12_unit_167 rfl 2 rfl ?_
    refine nw_if_eq (tgt := 187) C dX12_unit_168 (by decide) h (fun _ h => ?_) (fun _ h => ?_)
    · exact nm_vret C hr dX12_unit_187 h
    · exact nw_lv (lv' := [(0, .ref (am 112)), (1, .int x1)]) [0, 1] rfl (w_M_unit_171 C hr hrc0 hrc1 hrc2 hrc3 hrc4 hrc5 x1 _ h)
  · exact nw_lv (lv' := [(0, .ref (am 112)), (1, .int x1)]) [0, 1] rfl (w_M_unit_171 C hr hrc0 hrc1 hrc2 hrc3 hrc4 hrc5 x1 _ h)
def B_M_unit_147 (rc : Nat → CS → Option (Int32 × CS))   (x1 : Int32) (x2 : Int32) (σ : CS) : Option (Int32 × CS) := bnd (f_M_sign 44 σ) (fun _ σ150 => bnd (rc 0 σ150) (fun _ σ154 => B_M_unit_157 rc x1 x2 σ154))
set_option maxHeartbeats 4000000 in
set_option maxRecDepth 100000 in
theorem w_M_unit_147 (C : Cx g p s m args meth c A 3 cX12_unit yX12_unit.cls) (hr : meth.sig.returnType = none) {d : Nat} {rc : Nat → CS → Option (Int32 × CS)} (hrc0 : ∀ {l : Launch} {g : EG} {am : Nat → Nat} {Rr : va_W} {σ σ' : CS} {r : Int32}, rc 0  σ = some (r, σ') → CmV l g yX12_sum (.code yX12_sum cX12_sum 2 none) (10 * d) (400 * d) am Rr σ [.ref (am 112)] r σ') (hrc1 : ∀ {l : Launch} {g : EG} {am : Nat → Nat} {Rr : va_W} {σ σ' : CS} {r : Int32}, rc 1  σ = some (r, σ') → CmV l g yX12_product (.code yX12_product cX12_product 2 none) (10 * d) (400 * d) am Rr σ [.ref (am 112)] r σ') (hrc2 : ∀ {l : Launch} {g : EG} {am : Nat → Nat} {Rr : va_W} {σ σ' : CS} {r : Int32}, rc 2  σ = some (r, σ') → CmV l g yX12_unit (.code yX12_unit cX12_unit 3 none) (10 * d) (400 * d) am Rr σ [.ref (am 112)] r σ') (hrc3 : ∀ {l : Launch} {g : EG} {am : Nat → Nat} {Rr : va_W} {σ σ' : CS} {r : Int32}, rc 3  σ = some (r, σ') → CmV l g yX12_ors (.code yX12_ors cX12_ors 1 none) (10 * d) (400 * d) am Rr σ [.ref (am 112)] r σ') (hrc4 : ∀ {l : Launch} {g : EG} {am : Nat → Nat} {Rr : va_W} {σ σ' : CS} {r : Int32}, rc 4  σ = some (r, σ') → CmV l g yX12_ands (.code yX12_ands cX12_ands 1 none) (10 * d) (400 * d) am Rr σ [.ref (am 112)] r σ') (hrc5 : ∀ {l : Launch} {g : EG} {am : Nat → Nat} {Rr : va_W} {σ σ' : CS} {r : Int32}, rc 5  σ = some (r, σ') → CmV l g yX12_test (.code yX12_test cX12_test 2 none) (10 * d) (400 * d) am Rr σ [.ref (am 112)] r σ')  {res : Int32 × CS}   (x1 : Int32) (x2 : Int32)  (σ : CS) (h : B_M_unit_147 rc x1 x2 σ = some res) : NMV g p l e s m args below meth c A (10 * d + 10) (400 * d + 400) 3 am Rr res σ [(0, .ref (am 112)), (1, .int x1), (2, .int x2)] 147 [] := by
  unfold B_M_unit_147 at h
  refine nw_aload_n C dX12_unit_147 rfl 0 rfl ?_
  refine nw_bipush (v := 44) C dX12_unit_148 (by decide) ?_
  refine nm_callVV (q0 := 0) (As := [.int 44]) (rest := []) C h (fun _ _ e => c_M_sign e) tw_2075 kv_X12_sign ml_O rfl ⟨by omega, by omega⟩ rfl dX12_unit_150 rfl (Nat.le_of_ble_eq_true rfl) (fun r150 σ150 h => ?_)
  refine nw_aload_n C dX12_unit_153 rfl 0 rfl ?_
  refine nm_callVV (q0 := 0) (As := []) (rest := []) C h (fun _ _ e => hrc0 e) tw_2079 kv_X12_sum ml_O rfl ⟨by omega, by omega⟩ rfl dX12_unit_154 rfl (Nat.le_of_ble_eq_true rfl) (fun r154 σ154 h => ?_)
  exact nw_lv (lv' := [(0, .ref (am 112)), (1, .int x1), (2, .int x2)]) [0, 1, 2] rfl (w_M_unit_157 C hr hrc0 hrc1 hrc2 hrc3 hrc4 hrc5 x1 x2 _ h)
def B_M_unit_102 (rc : Nat → CS → Option (Int32 × CS))   (x1 : Int32) (z0 : Int32) (σ : CS) : Option (Int32 × CS) := bnd (f_M_blanks σ) (fun _ σ104 => bnd (f_M_byteAt (σ104.1 23) σ104) (fun r112 σ112 => if r112 = 40 then bnd (f_M_opens 1 σ112) (fun _ σ132 => bnd (rc 0 σ132) (fun _ σ136 => if x1 = 0 then if z0 = 0 then B_M_unit_157 rc x1 z0 σ136 else B_M_unit_147 rc x1 z0 σ136 else B_M_unit_147 rc x1 z0 σ136)) else bnd (f_M_wrong 1 (σ112.1 23) σ112) (fun _ σ126 => some (0, σ126))))
set_option maxHeartbeats 4000000 in
set_option maxRecDepth 100000 in
theorem w_M_unit_102 (C : Cx g p s m args meth c A 3 cX12_unit yX12_unit.cls) (hr : meth.sig.returnType = none) {d : Nat} {rc : Nat → CS → Option (Int32 × CS)} (hrc0 : ∀ {l : Launch} {g : EG} {am : Nat → Nat} {Rr : va_W} {σ σ' : CS} {r : Int32}, rc 0  σ = some (r, σ') → CmV l g yX12_sum (.code yX12_sum cX12_sum 2 none) (10 * d) (400 * d) am Rr σ [.ref (am 112)] r σ') (hrc1 : ∀ {l : Launch} {g : EG} {am : Nat → Nat} {Rr : va_W} {σ σ' : CS} {r : Int32}, rc 1  σ = some (r, σ') → CmV l g yX12_product (.code yX12_product cX12_product 2 none) (10 * d) (400 * d) am Rr σ [.ref (am 112)] r σ') (hrc2 : ∀ {l : Launch} {g : EG} {am : Nat → Nat} {Rr : va_W} {σ σ' : CS} {r : Int32}, rc 2  σ = some (r, σ') → CmV l g yX12_unit (.code yX12_unit cX12_unit 3 none) (10 * d) (400 * d) am Rr σ [.ref (am 112)] r σ') (hrc3 : ∀ {l : Launch} {g : EG} {am : Nat → Nat} {Rr : va_W} {σ σ' : CS} {r : Int32}, rc 3  σ = some (r, σ') → CmV l g yX12_ors (.code yX12_ors cX12_ors 1 none) (10 * d) (400 * d) am Rr σ [.ref (am 112)] r σ') (hrc4 : ∀ {l : Launch} {g : EG} {am : Nat → Nat} {Rr : va_W} {σ σ' : CS} {r : Int32}, rc 4  σ = some (r, σ') → CmV l g yX12_ands (.code yX12_ands cX12_ands 1 none) (10 * d) (400 * d) am Rr σ [.ref (am 112)] r σ') (hrc5 : ∀ {l : Launch} {g : EG} {am : Nat → Nat} {Rr : va_W} {σ σ' : CS} {r : Int32}, rc 5  σ = some (r, σ') → CmV l g yX12_test (.code yX12_test cX12_test 2 none) (10 * d) (400 * d) am Rr σ [.ref (am 112)] r σ')  {res : Int32 × CS}   (x1 : Int32) (z0 : Int32)  (σ : CS) (h : B_M_unit_102 rc x1 z0 σ = some res) : NMV g p l e s m args below meth c A (10 * d + 10) (400 * d + 400) 3 am Rr res σ [(0, .ref (am 112)), (1, .int x1)] 102 [.int z0] := by
  unfold B_M_unit_102 at h
  refine nw_istore_n (lv' := [(2, .int z0), (0, .ref (am 112)), (1, .int x1)]) C dX12_unit_102 rfl (by decide) rfl ?_
  refine nw_aload_n C dX12_unit_103 rfl 1 rfl ?_
  refine nm_callVV (q0 := 0) (As := []) (rest := []) C h (fun _ _ e => c_M_blanks e) tw_2021 kv_X12_blanks ml_O rfl ⟨by omega, by omega⟩ rfl dX12_unit_104 rfl (Nat.le_of_ble_eq_true rfl) (fun r104 σ104 h => ?_)
  refine nw_aload_n C dX12_unit_107 rfl 1 rfl ?_
  refine nw_aload_n C dX12_unit_108 rfl 1 rfl ?_
  refine nw_get (v := .int (σ104.1 23)) C in_X12 0 ml_O rfl 23 (by decide) tw_1596 rfl mf_23 dX12_unit_109 ?_
  refine nm_callVI (q0 := 0) (As := [.int (σ104.1 23)]) (rest := []) C h (fun _ _ e => c_M_byteAt e) tw_2025 kv_X12_byteAt ml_O rfl ⟨by omega, by omega⟩ rfl dX12_unit_112 rfl (Nat.le_of_ble_eq_true rfl) (fun r112 σ112 h => ?_)
  refine nw_bipush (v := 40) C dX12_unit_115 (by decide) ?_
  refine nw_icmp_eq (tgt := 130) C dX12_unit_117 (by decide) h (fun _ h => ?_) (fun _ h => ?_)
  · refine nw_aload_n C dX12_unit_130 rfl 1 rfl ?_
    refine nw_iconst (v := 1) C dX12_unit_131 (by decide) ?_
    refine nm_callVV (q0 := 0) (As := [.int 1]) (rest := []) C h (fun _ _ e => c_M_opens e) tw_2113 kv_X12_opens ml_O rfl ⟨by omega, by omega⟩ rfl dX12_unit_132 rfl (Nat.le_of_ble_eq_true rfl) (fun r132 σ132 h => ?_)
    refine nw_aload_n C dX12_unit_135 rfl 1 rfl ?_
    refine nm_callVV (q0 := 0) (As := []) (rest := []) C h (fun _ _ e => hrc0 e) tw_2079 kv_X12_sum ml_O rfl ⟨by omega, by omega⟩ rfl dX12_unit_136 rfl (Nat.le_of_ble_eq_true rfl) (fun r136 σ136 h => ?_)
    refine nw_iload_n C dX12_unit_139 rfl 2 rfl ?_
    refine nw_if_ne (tgt := 147) C dX12_unit_140 (by decide) h (fun _ h => ?_) (fun _ h => ?_)
    · refine nw_iload_n C dX12_unit_143 rfl 0 rfl ?_
      refine nw_if_eq (tgt := 157) C dX12_unit_144 (by decide) h (fun _ h => ?_) (fun _ h => ?_)
      · exact nw_lv (lv' := [(0, .ref (am 112)), (1, .int x1), (2, .int z0)]) [1, 2, 0] rfl (w_M_unit_157 C hr hrc0 hrc1 hrc2 hrc3 hrc4 hrc5 x1 z0 _ h)
      · exact nw_lv (lv' := [(0, .ref (am 112)), (1, .int x1), (2, .int z0)]) [1, 2, 0] rfl (w_M_unit_147 C hr hrc0 hrc1 hrc2 hrc3 hrc4 hrc5 x1 z0 _ h)
    · exact nw_lv (lv' := [(0, .ref (am 112)), (1, .int x1), (2, .int z0)]) [1, 2, 0] rfl (w_M_unit_147 C hr hrc0 hrc1 hrc2 hrc3 hrc4 hrc5 x1 z0 _ h)
  · refine nw_aload_n C dX12_unit_120 rfl 1 rfl ?_
    refine nw_iconst (v := 1) C dX12_unit_121 (by decide) ?_
    refine nw_aload_n C dX12_unit_122 rfl 1 rfl ?_
    refine nw_get (v := .int (σ112.1 23)) C in_X12 0 ml_O rfl 23 (by decide) tw_1596 rfl mf_23 dX12_unit_123 ?_
    refine nm_callVV (q0 := 0) (As := [.int 1, .int (σ112.1 23)]) (rest := []) C h (fun _ _ e => c_M_wrong e) tw_2050 kv_X12_wrong ml_O rfl ⟨by omega, by omega⟩ rfl dX12_unit_126 rfl (Nat.le_of_ble_eq_true rfl) (fun r126 σ126 h => ?_)
    exact nm_vret C hr dX12_unit_129 h
def B_M_unit_101 (rc : Nat → CS → Option (Int32 × CS))   (x1 : Int32) (σ : CS) : Option (Int32 × CS) := B_M_unit_102 rc x1 0 σ
set_option maxHeartbeats 4000000 in
set_option maxRecDepth 100000 in
theorem w_M_unit_101 (C : Cx g p s m args meth c A 3 cX12_unit yX12_unit.cls) (hr : meth.sig.returnType = none) {d : Nat} {rc : Nat → CS → Option (Int32 × CS)} (hrc0 : ∀ {l : Launch} {g : EG} {am : Nat → Nat} {Rr : va_W} {σ σ' : CS} {r : Int32}, rc 0  σ = some (r, σ') → CmV l g yX12_sum (.code yX12_sum cX12_sum 2 none) (10 * d) (400 * d) am Rr σ [.ref (am 112)] r σ') (hrc1 : ∀ {l : Launch} {g : EG} {am : Nat → Nat} {Rr : va_W} {σ σ' : CS} {r : Int32}, rc 1  σ = some (r, σ') → CmV l g yX12_product (.code yX12_product cX12_product 2 none) (10 * d) (400 * d) am Rr σ [.ref (am 112)] r σ') (hrc2 : ∀ {l : Launch} {g : EG} {am : Nat → Nat} {Rr : va_W} {σ σ' : CS} {r : Int32}, rc 2  σ = some (r, σ') → CmV l g yX12_unit (.code yX12_unit cX12_unit 3 none) (10 * d) (400 * d) am Rr σ [.ref (am 112)] r σ') (hrc3 : ∀ {l : Launch} {g : EG} {am : Nat → Nat} {Rr : va_W} {σ σ' : CS} {r : Int32}, rc 3  σ = some (r, σ') → CmV l g yX12_ors (.code yX12_ors cX12_ors 1 none) (10 * d) (400 * d) am Rr σ [.ref (am 112)] r σ') (hrc4 : ∀ {l : Launch} {g : EG} {am : Nat → Nat} {Rr : va_W} {σ σ' : CS} {r : Int32}, rc 4  σ = some (r, σ') → CmV l g yX12_ands (.code yX12_ands cX12_ands 1 none) (10 * d) (400 * d) am Rr σ [.ref (am 112)] r σ') (hrc5 : ∀ {l : Launch} {g : EG} {am : Nat → Nat} {Rr : va_W} {σ σ' : CS} {r : Int32}, rc 5  σ = some (r, σ') → CmV l g yX12_test (.code yX12_test cX12_test 2 none) (10 * d) (400 * d) am Rr σ [.ref (am 112)] r σ')  {res : Int32 × CS}   (x1 : Int32)  (σ : CS) (h : B_M_unit_101 rc x1 σ = some res) : NMV g p l e s m args below meth c A (10 * d + 10) (400 * d + 400) 3 am Rr res σ [(0, .ref (am 112)), (1, .int x1)] 101 [] := by
  unfold B_M_unit_101 at h
  refine nw_iconst (v := 0) C dX12_unit_101 (by decide) ?_
  exact nw_lv (lv' := [(0, .ref (am 112)), (1, .int x1)]) [0, 1] rfl (w_M_unit_102 C hr hrc0 hrc1 hrc2 hrc3 hrc4 hrc5 x1 0 _ h)
def B_M_unit_75 (rc : Nat → CS → Option (Int32 × CS))    (σ : CS) : Option (Int32 × CS) := bnd (f_M_eat 32 σ) (fun r79 σ79 => if r79 = 0 then bnd (f_M_eat 33 σ79) (fun r91 σ91 => if r91 = 0 then B_M_unit_101 rc r79 σ91 else B_M_unit_102 rc r79 1 σ91) else B_M_unit_101 rc r79 σ79)
set_option maxHeartbeats 4000000 in
set_option maxRecDepth 100000 in
theorem w_M_unit_75 (C : Cx g p s m args meth c A 3 cX12_unit yX12_unit.cls) (hr : meth.sig.returnType = none) {d : Nat} {rc : Nat → CS → Option (Int32 × CS)} (hrc0 : ∀ {l : Launch} {g : EG} {am : Nat → Nat} {Rr : va_W} {σ σ' : CS} {r : Int32}, rc 0  σ = some (r, σ') → CmV l g yX12_sum (.code yX12_sum cX12_sum 2 none) (10 * d) (400 * d) am Rr σ [.ref (am 112)] r σ') (hrc1 : ∀ {l : Launch} {g : EG} {am : Nat → Nat} {Rr : va_W} {σ σ' : CS} {r : Int32}, rc 1  σ = some (r, σ') → CmV l g yX12_product (.code yX12_product cX12_product 2 none) (10 * d) (400 * d) am Rr σ [.ref (am 112)] r σ') (hrc2 : ∀ {l : Launch} {g : EG} {am : Nat → Nat} {Rr : va_W} {σ σ' : CS} {r : Int32}, rc 2  σ = some (r, σ') → CmV l g yX12_unit (.code yX12_unit cX12_unit 3 none) (10 * d) (400 * d) am Rr σ [.ref (am 112)] r σ') (hrc3 : ∀ {l : Launch} {g : EG} {am : Nat → Nat} {Rr : va_W} {σ σ' : CS} {r : Int32}, rc 3  σ = some (r, σ') → CmV l g yX12_ors (.code yX12_ors cX12_ors 1 none) (10 * d) (400 * d) am Rr σ [.ref (am 112)] r σ') (hrc4 : ∀ {l : Launch} {g : EG} {am : Nat → Nat} {Rr : va_W} {σ σ' : CS} {r : Int32}, rc 4  σ = some (r, σ') → CmV l g yX12_ands (.code yX12_ands cX12_ands 1 none) (10 * d) (400 * d) am Rr σ [.ref (am 112)] r σ') (hrc5 : ∀ {l : Launch} {g : EG} {am : Nat → Nat} {Rr : va_W} {σ σ' : CS} {r : Int32}, rc 5  σ = some (r, σ') → CmV l g yX12_test (.code yX12_test cX12_test 2 none) (10 * d) (400 * d) am Rr σ [.ref (am 112)] r σ')  {res : Int32 × CS}     (σ : CS) (h : B_M_unit_75 rc σ = some res) : NMV g p l e s m args below meth c A (10 * d + 10) (400 * d + 400) 3 am Rr res σ [(0, .ref (am 112))] 75 [] := by
  unfold B_M_unit_75 at h
  refine nw_aload_n C dX12_unit_75 rfl 0 rfl ?_
  refine nw_ldsw (i := 32) C (by decide) rfl rfl dX12_unit_76 ?_
  refine nm_callVI (q0 := 0) (As := [.ref (gK g 32)]) (rest := []) C h (fun _ _ e => c_M_eat 32 (by decide) e) tw_2071 kv_X12_eat ml_O rfl ⟨by omega, by omega⟩ rfl dX12_unit_79 rfl (Nat.le_of_ble_eq_true rfl) (fun r79 σ79 h => ?_)
  refine nw_istore_n (lv' := [(1, .int r79), (0, .ref (am 112))]) C dX12_unit_82 rfl (by decide) rfl ?_
  refine nw_iload_n C dX12_unit_83 rfl 0 rfl ?_
  refine nw_if_ne (tgt := 101) C dX12_unit_84 (by decide) h (fun _ h => ?_) (fun _ h => ?_)
  · refine nw_aload_n C dX12_unit_87 rfl 1 rfl ?_
    refine nw_ldsw (i := 33) C (by decide) rfl rfl dX12_unit_88 ?_
    refine nm_callVI (q0 := 0) (As := [.ref (gK g 33)]) (rest := []) C h (fun _ _ e => c_M_eat 33 (by decide) e) tw_2071 kv_X12_eat ml_O rfl ⟨by omega, by omega⟩ rfl dX12_unit_91 rfl (Nat.le_of_ble_eq_true rfl) (fun r91 σ91 h => ?_)
    refine nw_if_eq (tgt := 101) C dX12_unit_94 (by decide) h (fun _ h => ?_) (fun _ h => ?_)
    · exact nw_lv (lv' := [(0, .ref (am 112)), (1, .int r79)]) [1, 0] rfl (w_M_unit_101 C hr hrc0 hrc1 hrc2 hrc3 hrc4 hrc5 r79 _ h)
    · refine nw_iconst (v := 1) C dX12_unit_97 (by decide) ?_
      refine nw_goto (tgt := 102) C dX12_unit_98 (by decide) ?_
      exact nw_lv (lv' := [(0, .ref (am 112)), (1, .int r79)]) [1, 0] rfl (w_M_unit_102 C hr hrc0 hrc1 hrc2 hrc3 hrc4 hrc5 r79 1 _ h)
  · exact nw_lv (lv' := [(0, .ref (am 112)), (1, .int r79)]) [1, 0] rfl (w_M_unit_101 C hr hrc0 hrc1 hrc2 hrc3 hrc4 hrc5 r79 _ h)
def f_M_unit (rc : Nat → CS → Option (Int32 × CS))  (σ : CS) : Option (Int32 × CS) := if (σ.1 24) ≤ 0 then bnd (f_M_blanks σ) (fun _ σ9 => bnd (f_M_byteAt (σ9.1 23) σ9) (fun r17 σ17 => bnd (f_M_isDigit r17 σ17) (fun r20 σ20 => if r20 = 0 then L_M_unit_42 rc (B_M_unit_62 rc) (B_M_unit_75 rc) FU 0 σ20 else bnd (f_M_figures 0 9999 σ20) (fun r33 σ33 => bnd (f_M_emits 0 r33 σ33) (fun _ σ36 => some (0, σ36)))))) else some (0, σ)
set_option maxHeartbeats 4000000 in
set_option maxRecDepth 100000 in
theorem c_M_unit {l : Launch} {g : EG} {am : Nat → Nat} {Rr : va_W} {σ σ' : CS} {r : Int32}  {d : Nat} {rc : Nat → CS → Option (Int32 × CS)} (hrc0 : ∀ {l : Launch} {g : EG} {am : Nat → Nat} {Rr : va_W} {σ σ' : CS} {r : Int32}, rc 0  σ = some (r, σ') → CmV l g yX12_sum (.code yX12_sum cX12_sum 2 none) (10 * d) (400 * d) am Rr σ [.ref (am 112)] r σ') (hrc1 : ∀ {l : Launch} {g : EG} {am : Nat → Nat} {Rr : va_W} {σ σ' : CS} {r : Int32}, rc 1  σ = some (r, σ') → CmV l g yX12_product (.code yX12_product cX12_product 2 none) (10 * d) (400 * d) am Rr σ [.ref (am 112)] r σ') (hrc2 : ∀ {l : Launch} {g : EG} {am : Nat → Nat} {Rr : va_W} {σ σ' : CS} {r : Int32}, rc 2  σ = some (r, σ') → CmV l g yX12_unit (.code yX12_unit cX12_unit 3 none) (10 * d) (400 * d) am Rr σ [.ref (am 112)] r σ') (hrc3 : ∀ {l : Launch} {g : EG} {am : Nat → Nat} {Rr : va_W} {σ σ' : CS} {r : Int32}, rc 3  σ = some (r, σ') → CmV l g yX12_ors (.code yX12_ors cX12_ors 1 none) (10 * d) (400 * d) am Rr σ [.ref (am 112)] r σ') (hrc4 : ∀ {l : Launch} {g : EG} {am : Nat → Nat} {Rr : va_W} {σ σ' : CS} {r : Int32}, rc 4  σ = some (r, σ') → CmV l g yX12_ands (.code yX12_ands cX12_ands 1 none) (10 * d) (400 * d) am Rr σ [.ref (am 112)] r σ') (hrc5 : ∀ {l : Launch} {g : EG} {am : Nat → Nat} {Rr : va_W} {σ σ' : CS} {r : Int32}, rc 5  σ = some (r, σ') → CmV l g yX12_test (.code yX12_test cX12_test 2 none) (10 * d) (400 * d) am Rr σ [.ref (am 112)] r σ')  (h : f_M_unit rc σ = some (r, σ')) : CmV l g yX12_unit (.code yX12_unit cX12_unit 3 none) (10 * d + 10) (400 * d + 400) am Rr σ [.ref (am 112)] r σ' := by
  refine Ct.of rfl (by decide) (Nat.le_of_ble_eq_true rfl) ?_
  intro p e s m args below meth c A C hr
  show NMV g p l e s m args below meth c A (10 * d + 10) (400 * d + 400) 3 am Rr (r, σ') σ [(0, .ref (am 112))] 0 []
  unfold f_M_unit at h
  refine nw_aload_n C dX12_unit_0 rfl 0 rfl ?_
  refine nw_get (v := .int (σ.1 24)) C in_X12 0 ml_O rfl 24 (by decide) tw_1597 rfl mf_24 dX12_unit_1 ?_
  refine nw_if_le (tgt := 8) C dX12_unit_4 (by decide) h (fun _ h => ?_) (fun _ h => ?_)
  · refine nw_aload_n C dX12_unit_8 rfl 0 rfl ?_
    refine nm_callVV (q0 := 0) (As := []) (rest := []) C h (fun _ _ e => c_M_blanks e) tw_2021 kv_X12_blanks ml_O rfl ⟨by omega, by omega⟩ rfl dX12_unit_9 rfl (Nat.le_of_ble_eq_true rfl) (fun r9 σ9 h => ?_)
    refine nw_aload_n C dX12_unit_12 rfl 0 rfl ?_
    refine nw_aload_n C dX12_unit_13 rfl 0 rfl ?_
    refine nw_get (v := .int (σ9.1 23)) C in_X12 0 ml_O rfl 23 (by decide) tw_1596 rfl mf_23 dX12_unit_14 ?_
    refine nm_callVI (q0 := 0) (As := [.int (σ9.1 23)]) (rest := []) C h (fun _ _ e => c_M_byteAt e) tw_2025 kv_X12_byteAt ml_O rfl ⟨by omega, by omega⟩ rfl dX12_unit_17 rfl (Nat.le_of_ble_eq_true rfl) (fun r17 σ17 h => ?_)
    refine nm_callSI  (As := [.int r17]) (rest := []) C h (fun _ _ e => c_M_isDigit e) tw_2091 ks_X12_isDigit ⟨by omega, by omega⟩ rfl dX12_unit_20 rfl (Nat.le_of_ble_eq_true rfl) (fun r20 σ20 h => ?_)
    refine nw_if_eq (tgt := 40) C dX12_unit_23 (by decide) h (fun _ h => ?_) (fun _ h => ?_)
    · refine nw_iconst (v := 0) C dX12_unit_40 (by decide) ?_
      refine nw_istore_n (lv' := [(1, .int 0), (0, .ref (am 112))]) C dX12_unit_41 rfl (by decide) rfl ?_
      exact nw_lv (lv' := [(0, .ref (am 112)), (1, .int 0)]) [1, 0] rfl (w_M_unit_42 C hr hrc0 hrc1 hrc2 hrc3 hrc4 hrc5 (fun x1_ σ_ h_ => w_M_unit_62 C hr hrc0 hrc1 hrc2 hrc3 hrc4 hrc5 x1_ σ_ h_) (fun σ_ h_ => w_M_unit_75 C hr hrc0 hrc1 hrc2 hrc3 hrc4 hrc5 σ_ h_) FU 0 _ h)
    · refine nw_aload_n C dX12_unit_26 rfl 0 rfl ?_
      refine nw_iconst (v := 0) C dX12_unit_27 (by decide) ?_
      refine nw_aload_n C dX12_unit_28 rfl 0 rfl ?_
      refine nw_iconst (v := 0) C dX12_unit_29 (by decide) ?_
      refine nw_sipush (v := 9999) C dX12_unit_30 (by decide) ?_
      refine nm_callVI (q0 := 0) (As := [.int 0, .int 9999]) (rest := [.int 0, .ref (am 112)]) C h (fun _ _ e => c_M_figures e) tw_2094 kv_X12_figures ml_O rfl ⟨by omega, by omega⟩ rfl dX12_unit_33 rfl (Nat.le_of_ble_eq_true rfl) (fun r33 σ33 h => ?_)
      refine nm_callVV (q0 := 0) (As := [.int 0, .int r33]) (rest := []) C h (fun _ _ e => c_M_emits e) tw_2098 kv_X12_emits ml_O rfl ⟨by omega, by omega⟩ rfl dX12_unit_36 rfl (Nat.le_of_ble_eq_true rfl) (fun r36 σ36 h => ?_)
      exact nm_vret C hr dX12_unit_39 h
  · exact nm_vret C hr dX12_unit_7 h
theorem dX12_product_0 : decode cX12_product 0 = .ok (.aload_n 0, 1) := by decide +kernel
theorem dX12_product_1 : decode cX12_product 1 = .ok (.invokevirtual 441, 3) := by decide +kernel
theorem dX12_product_4 : decode cX12_product 4 = .ok (.aload_n 0, 1) := by decide +kernel
theorem dX12_product_5 : decode cX12_product 5 = .ok (.invokevirtual 352, 3) := by decide +kernel
theorem dX12_product_8 : decode cX12_product 8 = .ok (.aload_n 0, 1) := by decide +kernel
theorem dX12_product_9 : decode cX12_product 9 = .ok (.getfield 349, 3) := by decide +kernel
theorem dX12_product_12 : decode cX12_product 12 = .ok (.ifCond .ne 75, 3) := by decide +kernel
theorem dX12_product_15 : decode cX12_product 15 = .ok (.aload_n 0, 1) := by decide +kernel
theorem dX12_product_16 : decode cX12_product 16 = .ok (.aload_n 0, 1) := by decide +kernel
theorem dX12_product_17 : decode cX12_product 17 = .ok (.getfield 343, 3) := by decide +kernel
theorem dX12_product_20 : decode cX12_product 20 = .ok (.invokevirtual 346, 3) := by decide +kernel
theorem dX12_product_23 : decode cX12_product 23 = .ok (.bipush 42, 2) := by decide +kernel
theorem dX12_product_25 : decode cX12_product 25 = .ok (.if_icmp .eq 16, 3) := by decide +kernel
theorem dX12_product_28 : decode cX12_product 28 = .ok (.aload_n 0, 1) := by decide +kernel
theorem dX12_product_29 : decode cX12_product 29 = .ok (.aload_n 0, 1) := by decide +kernel
theorem dX12_product_30 : decode cX12_product 30 = .ok (.getfield 343, 3) := by decide +kernel
theorem dX12_product_33 : decode cX12_product 33 = .ok (.invokevirtual 346, 3) := by decide +kernel
theorem dX12_product_36 : decode cX12_product 36 = .ok (.bipush 47, 2) := by decide +kernel
theorem dX12_product_38 : decode cX12_product 38 = .ok (.if_icmp .ne 49, 3) := by decide +kernel
theorem dX12_product_41 : decode cX12_product 41 = .ok (.aload_n 0, 1) := by decide +kernel
theorem dX12_product_42 : decode cX12_product 42 = .ok (.aload_n 0, 1) := by decide +kernel
theorem dX12_product_43 : decode cX12_product 43 = .ok (.getfield 343, 3) := by decide +kernel
theorem dX12_product_46 : decode cX12_product 46 = .ok (.invokevirtual 346, 3) := by decide +kernel
theorem dX12_product_49 : decode cX12_product 49 = .ok (.istore_n 1, 1) := by decide +kernel
theorem dX12_product_50 : decode cX12_product 50 = .ok (.aload_n 0, 1) := by decide +kernel
theorem dX12_product_51 : decode cX12_product 51 = .ok (.dup, 1) := by decide +kernel
theorem dX12_product_52 : decode cX12_product 52 = .ok (.getfield 343, 3) := by decide +kernel
theorem dX12_product_55 : decode cX12_product 55 = .ok (.iconst 1, 1) := by decide +kernel
theorem dX12_product_56 : decode cX12_product 56 = .ok (.iadd, 1) := by decide +kernel
theorem dX12_product_57 : decode cX12_product 57 = .ok (.putfield 343, 3) := by decide +kernel
theorem dX12_product_60 : decode cX12_product 60 = .ok (.aload_n 0, 1) := by decide +kernel
theorem dX12_product_61 : decode cX12_product 61 = .ok (.invokevirtual 441, 3) := by decide +kernel
theorem dX12_product_64 : decode cX12_product 64 = .ok (.aload_n 0, 1) := by decide +kernel
theorem dX12_product_65 : decode cX12_product 65 = .ok (.iload_n 1, 1) := by decide +kernel
theorem dX12_product_66 : decode cX12_product 66 = .ok (.bipush 42, 2) := by decide +kernel
theorem dX12_product_68 : decode cX12_product 68 = .ok (.if_icmp .ne 7, 3) := by decide +kernel
theorem dX12_product_71 : decode cX12_product 71 = .ok (.iconst 4, 1) := by decide +kernel
theorem dX12_product_72 : decode cX12_product 72 = .ok (.goto 4, 3) := by decide +kernel
theorem dX12_product_75 : decode cX12_product 75 = .ok (.iconst 5, 1) := by decide +kernel
theorem dX12_product_76 : decode cX12_product 76 = .ok (.iconst 0, 1) := by decide +kernel
theorem dX12_product_77 : decode cX12_product 77 = .ok (.invokevirtual 438, 3) := by decide +kernel
theorem dX12_product_80 : decode cX12_product 80 = .ok (.aload_n 0, 1) := by decide +kernel
theorem dX12_product_81 : decode cX12_product 81 = .ok (.invokevirtual 352, 3) := by decide +kernel
theorem dX12_product_84 : decode cX12_product 84 = .ok (.goto (-76), 3) := by decide +kernel
theorem dX12_product_87 : decode cX12_product 87 = .ok (.return_, 1) := by decide +kernel
def B_M_product_76 (rc : Nat → CS → Option (Int32 × CS)) (k8 : CS → Option (Int32 × CS))  (z1 : Int32) (σ : CS) : Option (Int32 × CS) := bnd (f_M_emits z1 0 σ) (fun _ σ77 => bnd (f_M_blanks σ77) (fun _ σ81 => k8 σ81))
set_option maxHeartbeats 4000000 in
set_option maxRecDepth 100000 in
theorem w_M_product_76 (C : Cx g p s m args meth c A 2 cX12_product yX12_product.cls) (hr : meth.sig.returnType = none) {d : Nat} {rc : Nat → CS → Option (Int32 × CS)} (hrc0 : ∀ {l : Launch} {g : EG} {am : Nat → Nat} {Rr : va_W} {σ σ' : CS} {r : Int32}, rc 0  σ = some (r, σ') → CmV l g yX12_sum (.code yX12_sum cX12_sum 2 none) (10 * d) (400 * d) am Rr σ [.ref (am 112)] r σ') (hrc1 : ∀ {l : Launch} {g : EG} {am : Nat → Nat} {Rr : va_W} {σ σ' : CS} {r : Int32}, rc 1  σ = some (r, σ') → CmV l g yX12_product (.code yX12_product cX12_product 2 none) (10 * d) (400 * d) am Rr σ [.ref (am 112)] r σ') (hrc2 : ∀ {l : Launch} {g : EG} {am : Nat → Nat} {Rr : va_W} {σ σ' : CS} {r : Int32}, rc 2  σ = some (r, σ') → CmV l g yX12_unit (.code yX12_unit cX12_unit 3 none) (10 * d) (400 * d) am Rr σ [.ref (am 112)] r σ') (hrc3 : ∀ {l : Launch} {g : EG} {am : Nat → Nat} {Rr : va_W} {σ σ' : CS} {r : Int32}, rc 3  σ = some (r, σ') → CmV l g yX12_ors (.code yX12_ors cX12_ors 1 none) (10 * d) (400 * d) am Rr σ [.ref (am 112)] r σ') (hrc4 : ∀ {l : Launch} {g : EG} {am : Nat → Nat} {Rr : va_W} {σ σ' : CS} {r : Int32}, rc 4  σ = some (r, σ') → CmV l g yX12_ands (.code yX12_ands cX12_ands 1 none) (10 * d) (400 * d) am Rr σ [.ref (am 112)] r σ') (hrc5 : ∀ {l : Launch} {g : EG} {am : Nat → Nat} {Rr : va_W} {σ σ' : CS} {r : Int32}, rc 5  σ = some (r, σ') → CmV l g yX12_test (.code yX12_test cX12_test 2 none) (10 * d) (400 * d) am Rr σ [.ref (am 112)] r σ')  {res : Int32 × CS}   (z1 : Int32) {k8 : CS → Option (Int32 × CS)} (hk8 : ∀  (σ : CS), k8  σ = some res → NMV g p l e s m args below meth c A (10 * d + 10) (400 * d + 400) 2 am Rr res σ [(0, .ref (am 112))] 8 []) (σ : CS) (h : B_M_product_76 rc k8 z1 σ = some res) : NMV g p l e s m args below meth c A (10 * d + 10) (400 * d + 400) 2 am Rr res σ [(0, .ref (am 112))] 76 [.int z1, .ref (am 112)] := by
  unfold B_M_product_76 at h
  refine nw_iconst (v := 0) C dX12_product_76 (by decide) ?_
  refine nm_callVV (q0 := 0) (As := [.int z1, .int 0]) (rest := []) C h (fun _ _ e => c_M_emits e) tw_2098 kv_X12_emits ml_O rfl ⟨by omega, by omega⟩ rfl dX12_product_77 rfl (Nat.le_of_ble_eq_true rfl) (fun r77 σ77 h => ?_)
  refine nw_aload_n C dX12_product_80 rfl 0 rfl ?_
  refine nm_callVV (q0 := 0) (As := []) (rest := []) C h (fun _ _ e => c_M_blanks e) tw_2021 kv_X12_blanks ml_O rfl ⟨by omega, by omega⟩ rfl dX12_product_81 rfl (Nat.le_of_ble_eq_true rfl) (fun r81 σ81 h => ?_)
  refine nw_goto (tgt := 8) C dX12_product_84 (by decide) ?_
  exact nw_lv (lv' := [(0, .ref (am 112))]) [0] rfl (hk8  _ h)
def B_M_product_41 (rc : Nat → CS → Option (Int32 × CS)) (k8 : CS → Option (Int32 × CS))   (σ : CS) : Option (Int32 × CS) := bnd (f_M_byteAt (σ.1 23) σ) (fun r46 σ46 => bnd (rc 2 (sF σ46 23 ((σ46.1 23) + 1))) (fun _ σ61 => if r46 = 42 then B_M_product_76 rc k8 4 σ61 else B_M_product_76 rc k8 5 σ61))
set_option maxHeartbeats 4000000 in
set_option maxRecDepth 100000 in
theorem w_M_product_41 (C : Cx g p s m args meth c A 2 cX12_product yX12_product.cls) (hr : meth.sig.returnType = none) {d : Nat} {rc : Nat → CS → Option (Int32 × CS)} (hrc0 : ∀ {l : Launch} {g : EG} {am : Nat → Nat} {Rr : va_W} {σ σ' : CS} {r : Int32}, rc 0  σ = some (r, σ') → CmV l g yX12_sum (.code yX12_sum cX12_sum 2 none) (10 * d) (400 * d) am Rr σ [.ref (am 112)] r σ') (hrc1 : ∀ {l : Launch} {g : EG} {am : Nat → Nat} {Rr : va_W} {σ σ' : CS} {r : Int32}, rc 1  σ = some (r, σ') → CmV l g yX12_product (.code yX12_product cX12_product 2 none) (10 * d) (400 * d) am Rr σ [.ref (am 112)] r σ') (hrc2 : ∀ {l : Launch} {g : EG} {am : Nat → Nat} {Rr : va_W} {σ σ' : CS} {r : Int32}, rc 2  σ = some (r, σ') → CmV l g yX12_unit (.code yX12_unit cX12_unit 3 none) (10 * d) (400 * d) am Rr σ [.ref (am 112)] r σ') (hrc3 : ∀ {l : Launch} {g : EG} {am : Nat → Nat} {Rr : va_W} {σ σ' : CS} {r : Int32}, rc 3  σ = some (r, σ') → CmV l g yX12_ors (.code yX12_ors cX12_ors 1 none) (10 * d) (400 * d) am Rr σ [.ref (am 112)] r σ') (hrc4 : ∀ {l : Launch} {g : EG} {am : Nat → Nat} {Rr : va_W} {σ σ' : CS} {r : Int32}, rc 4  σ = some (r, σ') → CmV l g yX12_ands (.code yX12_ands cX12_ands 1 none) (10 * d) (400 * d) am Rr σ [.ref (am 112)] r σ') (hrc5 : ∀ {l : Launch} {g : EG} {am : Nat → Nat} {Rr : va_W} {σ σ' : CS} {r : Int32}, rc 5  σ = some (r, σ') → CmV l g yX12_test (.code yX12_test cX12_test 2 none) (10 * d) (400 * d) am Rr σ [.ref (am 112)] r σ')  {res : Int32 × CS}    {k8 : CS → Option (Int32 × CS)} (hk8 : ∀  (σ : CS), k8  σ = some res → NMV g p l e s m args below meth c A (10 * d + 10) (400 * d + 400) 2 am Rr res σ [(0, .ref (am 112))] 8 []) (σ : CS) (h : B_M_product_41 rc k8 σ = some res) : NMV g p l e s m args below meth c A (10 * d + 10) (400 * d + 400) 2 am Rr res σ [(0, .ref (am 112))] 41 [] := by
  unfold B_M_product_41 at h
  refine nw_aload_n C dX12_product_41 rfl 0 rfl ?_
  refine nw_aload_n C dX12_product_42 rfl 0 rfl ?_
  refine nw_get (v := .int (σ.1 23)) C in_X12 0 ml_O rfl 23 (by decide) tw_1596 rfl mf_23 dX12_product_43 ?_
  refine nm_callVI (q0 := 0) (As := [.int (σ.1 23)]) (rest := []) C h (fun _ _ e => c_M_byteAt e) tw_2025 kv_X12_byteAt ml_O rfl ⟨by omega, by omega⟩ rfl dX12_product_46 rfl (Nat.le_of_ble_eq_true rfl) (fun r46 σ46 h => ?_)
  refine nw_istore_n (lv' := [(1, .int r46), (0, .ref (am 112))]) C dX12_product_49 rfl (by decide) rfl ?_
  refine nw_aload_n C dX12_product_50 rfl 1 rfl ?_
  refine nw_dup C dX12_product_51 rfl ?_
  refine nw_get (v := .int (σ46.1 23)) C in_X12 0 ml_O rfl 23 (by decide) tw_1596 rfl mf_23 dX12_product_52 ?_
  refine nw_iconst (v := 1) C dX12_product_55 (by decide) ?_
  refine nw_iadd C dX12_product_56 ?_
  refine nw_put (ty := .int) C in_X12 0 ml_O rfl 23 (by decide) tyX12 tyX12_ok nmX12 tw_1596 rfl rfl (by decide +kernel) rfl rfl (Nat.le_of_ble_eq_true rfl) dX12_product_57 ms_23 ?_
  refine nw_aload_n C dX12_product_60 rfl 1 rfl ?_
  refine nm_callVV (q0 := 0) (As := []) (rest := []) C h (fun _ _ e => hrc2 e) tw_2087 kv_X12_unit ml_O rfl ⟨by omega, by omega⟩ rfl dX12_product_61 rfl (Nat.le_of_ble_eq_true rfl) (fun r61 σ61 h => ?_)
  refine nw_aload_n C dX12_product_64 rfl 1 rfl ?_
  refine nw_iload_n C dX12_product_65 rfl 0 rfl ?_
  refine nw_bipush (v := 42) C dX12_product_66 (by decide) ?_
  refine nw_icmp_ne (tgt := 75) C dX12_product_68 (by decide) h (fun _ h => ?_) (fun _ h => ?_)
  · refine nw_iconst (v := 4) C dX12_product_71 (by decide) ?_
    refine nw_goto (tgt := 76) C dX12_product_72 (by decide) ?_
    exact nw_lv (lv' := [(0, .ref (am 112))]) [1] rfl (w_M_product_76 C hr hrc0 hrc1 hrc2 hrc3 hrc4 hrc5 4 hk8 _ h)
  · refine nw_iconst (v := 5) C dX12_product_75 (by decide) ?_
    exact nw_lv (lv' := [(0, .ref (am 112))]) [1] rfl (w_M_product_76 C hr hrc0 hrc1 hrc2 hrc3 hrc4 hrc5 5 hk8 _ h)
def L_M_product_8 (rc : Nat → CS → Option (Int32 × CS))   : Nat → CS → Option (Int32 × CS)
  | 0, _ => none
  | n + 1, σ => if (σ.1 24) = 0 then bnd (f_M_byteAt (σ.1 23) σ) (fun r20 σ20 => if r20 = 42 then B_M_product_41 rc (L_M_product_8 rc n) σ20 else bnd (f_M_byteAt (σ20.1 23) σ20) (fun r33 σ33 => if r33 = 47 then B_M_product_41 rc (L_M_product_8 rc n) σ33 else some (0, σ33))) else some (0, σ)
set_option maxHeartbeats 4000000 in
set_option maxRecDepth 100000 in
theorem w_M_product_8 (C : Cx g p s m args meth c A 2 cX12_product yX12_product.cls) (hr : meth.sig.returnType = none) {d : Nat} {rc : Nat → CS → Option (Int32 × CS)} (hrc0 : ∀ {l : Launch} {g : EG} {am : Nat → Nat} {Rr : va_W} {σ σ' : CS} {r : Int32}, rc 0  σ = some (r, σ') → CmV l g yX12_sum (.code yX12_sum cX12_sum 2 none) (10 * d) (400 * d) am Rr σ [.ref (am 112)] r σ') (hrc1 : ∀ {l : Launch} {g : EG} {am : Nat → Nat} {Rr : va_W} {σ σ' : CS} {r : Int32}, rc 1  σ = some (r, σ') → CmV l g yX12_product (.code yX12_product cX12_product 2 none) (10 * d) (400 * d) am Rr σ [.ref (am 112)] r σ') (hrc2 : ∀ {l : Launch} {g : EG} {am : Nat → Nat} {Rr : va_W} {σ σ' : CS} {r : Int32}, rc 2  σ = some (r, σ') → CmV l g yX12_unit (.code yX12_unit cX12_unit 3 none) (10 * d) (400 * d) am Rr σ [.ref (am 112)] r σ') (hrc3 : ∀ {l : Launch} {g : EG} {am : Nat → Nat} {Rr : va_W} {σ σ' : CS} {r : Int32}, rc 3  σ = some (r, σ') → CmV l g yX12_ors (.code yX12_ors cX12_ors 1 none) (10 * d) (400 * d) am Rr σ [.ref (am 112)] r σ') (hrc4 : ∀ {l : Launch} {g : EG} {am : Nat → Nat} {Rr : va_W} {σ σ' : CS} {r : Int32}, rc 4  σ = some (r, σ') → CmV l g yX12_ands (.code yX12_ands cX12_ands 1 none) (10 * d) (400 * d) am Rr σ [.ref (am 112)] r σ') (hrc5 : ∀ {l : Launch} {g : EG} {am : Nat → Nat} {Rr : va_W} {σ σ' : CS} {r : Int32}, rc 5  σ = some (r, σ') → CmV l g yX12_test (.code yX12_test cX12_test 2 none) (10 * d) (400 * d) am Rr σ [.ref (am 112)] r σ')  {res : Int32 × CS}    : ∀ (n : Nat)  (σ : CS), L_M_product_8 rc n σ = some res → NMV g p l e s m args below meth c A (10 * d + 10) (400 * d + 400) 2 am Rr res σ [(0, .ref (am 112))] 8 [] := by
  intro n
  induction n with
  | zero =>
    intro  σ h
    exact absurd (show (none : Option (Int32 × CS)) = some res from h) (by intro h9; cases h9)
  | succ n ih =>
    intro  σ h
    rw [L_M_product_8] at h
    refine nw_aload_n C dX12_product_8 rfl 0 rfl ?_
    refine nw_get (v := .int (σ.1 24)) C in_X12 0 ml_O rfl 24 (by decide) tw_1597 rfl mf_24 dX12_product_9 ?_
    refine nw_if_ne (tgt := 87) C dX12_product_12 (by decide) h (fun _ h => ?_) (fun _ h => ?_)
    · refine nw_aload_n C dX12_product_15 rfl 0 rfl ?_
      refine nw_aload_n C dX12_product_16 rfl 0 rfl ?_
      refine nw_get (v := .int (σ.1 23)) C in_X12 0 ml_O rfl 23 (by decide) tw_1596 rfl mf_23 dX12_product_17 ?_
      refine nm_callVI (q0 := 0) (As := [.int (σ.1 23)]) (rest := []) C h (fun _ _ e => c_M_byteAt e) tw_2025 kv_X12_byteAt ml_O rfl ⟨by omega, by omega⟩ rfl dX12_product_20 rfl (Nat.le_of_ble_eq_true rfl) (fun r20 σ20 h => ?_)
      refine nw_bipush (v := 42) C dX12_product_23 (by decide) ?_
      refine nw_icmp_eq (tgt := 41) C dX12_product_25 (by decide) h (fun _ h => ?_) (fun _ h => ?_)
      · exact nw_lv (lv' := [(0, .ref (am 112))]) [0] rfl (w_M_product_41 C hr hrc0 hrc1 hrc2 hrc3 hrc4 hrc5 ih _ h)
      · refine nw_aload_n C dX12_product_28 rfl 0 rfl ?_
        refine nw_aload_n C dX12_product_29 rfl 0 rfl ?_
        refine nw_get (v := .int (σ20.1 23)) C in_X12 0 ml_O rfl 23 (by decide) tw_1596 rfl mf_23 dX12_product_30 ?_
        refine nm_callVI (q0 := 0) (As := [.int (σ20.1 23)]) (rest := []) C h (fun _ _ e => c_M_byteAt e) tw_2025 kv_X12_byteAt ml_O rfl ⟨by omega, by omega⟩ rfl dX12_product_33 rfl (Nat.le_of_ble_eq_true rfl) (fun r33 σ33 h => ?_)
        refine nw_bipush (v := 47) C dX12_product_36 (by decide) ?_
        refine nw_icmp_ne (tgt := 87) C dX12_product_38 (by decide) h (fun _ h => ?_) (fun _ h => ?_)
        · exact nw_lv (lv' := [(0, .ref (am 112))]) [0] rfl (w_M_product_41 C hr hrc0 hrc1 hrc2 hrc3 hrc4 hrc5 ih _ h)
        · exact nm_vret C hr dX12_product_87 h
    · exact nm_vret C hr dX12_product_87 h
def f_M_product (rc : Nat → CS → Option (Int32 × CS))  (σ : CS) : Option (Int32 × CS) := bnd (rc 2 σ) (fun _ σ1 => bnd (f_M_blanks σ1) (fun _ σ5 => L_M_product_8 rc FU σ5))
set_option maxHeartbeats 4000000 in
set_option maxRecDepth 100000 in
theorem c_M_product {l : Launch} {g : EG} {am : Nat → Nat} {Rr : va_W} {σ σ' : CS} {r : Int32}  {d : Nat} {rc : Nat → CS → Option (Int32 × CS)} (hrc0 : ∀ {l : Launch} {g : EG} {am : Nat → Nat} {Rr : va_W} {σ σ' : CS} {r : Int32}, rc 0  σ = some (r, σ') → CmV l g yX12_sum (.code yX12_sum cX12_sum 2 none) (10 * d) (400 * d) am Rr σ [.ref (am 112)] r σ') (hrc1 : ∀ {l : Launch} {g : EG} {am : Nat → Nat} {Rr : va_W} {σ σ' : CS} {r : Int32}, rc 1  σ = some (r, σ') → CmV l g yX12_product (.code yX12_product cX12_product 2 none) (10 * d) (400 * d) am Rr σ [.ref (am 112)] r σ') (hrc2 : ∀ {l : Launch} {g : EG} {am : Nat → Nat} {Rr : va_W} {σ σ' : CS} {r : Int32}, rc 2  σ = some (r, σ') → CmV l g yX12_unit (.code yX12_unit cX12_unit 3 none) (10 * d) (400 * d) am Rr σ [.ref (am 112)] r σ') (hrc3 : ∀ {l : Launch} {g : EG} {am : Nat → Nat} {Rr : va_W} {σ σ' : CS} {r : Int32}, rc 3  σ = some (r, σ') → CmV l g yX12_ors (.code yX12_ors cX12_ors 1 none) (10 * d) (400 * d) am Rr σ [.ref (am 112)] r σ') (hrc4 : ∀ {l : Launch} {g : EG} {am : Nat → Nat} {Rr : va_W} {σ σ' : CS} {r : Int32}, rc 4  σ = some (r, σ') → CmV l g yX12_ands (.code yX12_ands cX12_ands 1 none) (10 * d) (400 * d) am Rr σ [.ref (am 112)] r σ') (hrc5 : ∀ {l : Launch} {g : EG} {am : Nat → Nat} {Rr : va_W} {σ σ' : CS} {r : Int32}, rc 5  σ = some (r, σ') → CmV l g yX12_test (.code yX12_test cX12_test 2 none) (10 * d) (400 * d) am Rr σ [.ref (am 112)] r σ')  (h : f_M_product rc σ = some (r, σ')) : CmV l g yX12_product (.code yX12_product cX12_product 2 none) (10 * d + 10) (400 * d + 400) am Rr σ [.ref (am 112)] r σ' := by
  refine Ct.of rfl (by decide) (Nat.le_of_ble_eq_true rfl) ?_
  intro p e s m args below meth c A C hr
  show NMV g p l e s m args below meth c A (10 * d + 10) (400 * d + 400) 2 am Rr (r, σ') σ [(0, .ref (am 112))] 0 []
  unfold f_M_product at h
  refine nw_aload_n C dX12_product_0 rfl 0 rfl ?_
  refine nm_callVV (q0 := 0) (As := []) (rest := []) C h (fun _ _ e => hrc2 e) tw_2087 kv_X12_unit ml_O rfl ⟨by omega, by omega⟩ rfl dX12_product_1 rfl (Nat.le_of_ble_eq_true rfl) (fun r1 σ1 h => ?_)
  refine nw_aload_n C dX12_product_4 rfl 0 rfl ?_
  refine nm_callVV (q0 := 0) (As := []) (rest := []) C h (fun _ _ e => c_M_blanks e) tw_2021 kv_X12_blanks ml_O rfl ⟨by omega, by omega⟩ rfl dX12_product_5 rfl (Nat.le_of_ble_eq_true rfl) (fun r5 σ5 h => ?_)
  exact nw_lv (lv' := [(0, .ref (am 112))]) [0] rfl (w_M_product_8 C hr hrc0 hrc1 hrc2 hrc3 hrc4 hrc5 FU _ h)
theorem dX12_sum_0 : decode cX12_sum 0 = .ok (.aload_n 0, 1) := by decide +kernel
theorem dX12_sum_1 : decode cX12_sum 1 = .ok (.invokevirtual 435, 3) := by decide +kernel
theorem dX12_sum_4 : decode cX12_sum 4 = .ok (.aload_n 0, 1) := by decide +kernel
theorem dX12_sum_5 : decode cX12_sum 5 = .ok (.invokevirtual 352, 3) := by decide +kernel
theorem dX12_sum_8 : decode cX12_sum 8 = .ok (.aload_n 0, 1) := by decide +kernel
theorem dX12_sum_9 : decode cX12_sum 9 = .ok (.getfield 349, 3) := by decide +kernel
theorem dX12_sum_12 : decode cX12_sum 12 = .ok (.ifCond .ne 75, 3) := by decide +kernel
theorem dX12_sum_15 : decode cX12_sum 15 = .ok (.aload_n 0, 1) := by decide +kernel
theorem dX12_sum_16 : decode cX12_sum 16 = .ok (.aload_n 0, 1) := by decide +kernel
theorem dX12_sum_17 : decode cX12_sum 17 = .ok (.getfield 343, 3) := by decide +kernel
theorem dX12_sum_20 : decode cX12_sum 20 = .ok (.invokevirtual 346, 3) := by decide +kernel
theorem dX12_sum_23 : decode cX12_sum 23 = .ok (.bipush 43, 2) := by decide +kernel
theorem dX12_sum_25 : decode cX12_sum 25 = .ok (.if_icmp .eq 16, 3) := by decide +kernel
theorem dX12_sum_28 : decode cX12_sum 28 = .ok (.aload_n 0, 1) := by decide +kernel
theorem dX12_sum_29 : decode cX12_sum 29 = .ok (.aload_n 0, 1) := by decide +kernel
theorem dX12_sum_30 : decode cX12_sum 30 = .ok (.getfield 343, 3) := by decide +kernel
theorem dX12_sum_33 : decode cX12_sum 33 = .ok (.invokevirtual 346, 3) := by decide +kernel
theorem dX12_sum_36 : decode cX12_sum 36 = .ok (.bipush 45, 2) := by decide +kernel
theorem dX12_sum_38 : decode cX12_sum 38 = .ok (.if_icmp .ne 49, 3) := by decide +kernel
theorem dX12_sum_41 : decode cX12_sum 41 = .ok (.aload_n 0, 1) := by decide +kernel
theorem dX12_sum_42 : decode cX12_sum 42 = .ok (.aload_n 0, 1) := by decide +kernel
theorem dX12_sum_43 : decode cX12_sum 43 = .ok (.getfield 343, 3) := by decide +kernel
theorem dX12_sum_46 : decode cX12_sum 46 = .ok (.invokevirtual 346, 3) := by decide +kernel
theorem dX12_sum_49 : decode cX12_sum 49 = .ok (.istore_n 1, 1) := by decide +kernel
theorem dX12_sum_50 : decode cX12_sum 50 = .ok (.aload_n 0, 1) := by decide +kernel
theorem dX12_sum_51 : decode cX12_sum 51 = .ok (.dup, 1) := by decide +kernel
theorem dX12_sum_52 : decode cX12_sum 52 = .ok (.getfield 343, 3) := by decide +kernel
theorem dX12_sum_55 : decode cX12_sum 55 = .ok (.iconst 1, 1) := by decide +kernel
theorem dX12_sum_56 : decode cX12_sum 56 = .ok (.iadd, 1) := by decide +kernel
theorem dX12_sum_57 : decode cX12_sum 57 = .ok (.putfield 343, 3) := by decide +kernel
theorem dX12_sum_60 : decode cX12_sum 60 = .ok (.aload_n 0, 1) := by decide +kernel
theorem dX12_sum_61 : decode cX12_sum 61 = .ok (.invokevirtual 435, 3) := by decide +kernel
theorem dX12_sum_64 : decode cX12_sum 64 = .ok (.aload_n 0, 1) := by decide +kernel
theorem dX12_sum_65 : decode cX12_sum 65 = .ok (.iload_n 1, 1) := by decide +kernel
theorem dX12_sum_66 : decode cX12_sum 66 = .ok (.bipush 43, 2) := by decide +kernel
theorem dX12_sum_68 : decode cX12_sum 68 = .ok (.if_icmp .ne 7, 3) := by decide +kernel
theorem dX12_sum_71 : decode cX12_sum 71 = .ok (.iconst 2, 1) := by decide +kernel
theorem dX12_sum_72 : decode cX12_sum 72 = .ok (.goto 4, 3) := by decide +kernel
theorem dX12_sum_75 : decode cX12_sum 75 = .ok (.iconst 3, 1) := by decide +kernel
theorem dX12_sum_76 : decode cX12_sum 76 = .ok (.iconst 0, 1) := by decide +kernel
theorem dX12_sum_77 : decode cX12_sum 77 = .ok (.invokevirtual 438, 3) := by decide +kernel
theorem dX12_sum_80 : decode cX12_sum 80 = .ok (.aload_n 0, 1) := by decide +kernel
theorem dX12_sum_81 : decode cX12_sum 81 = .ok (.invokevirtual 352, 3) := by decide +kernel
theorem dX12_sum_84 : decode cX12_sum 84 = .ok (.goto (-76), 3) := by decide +kernel
theorem dX12_sum_87 : decode cX12_sum 87 = .ok (.return_, 1) := by decide +kernel
def B_M_sum_76 (rc : Nat → CS → Option (Int32 × CS)) (k8 : CS → Option (Int32 × CS))  (z1 : Int32) (σ : CS) : Option (Int32 × CS) := bnd (f_M_emits z1 0 σ) (fun _ σ77 => bnd (f_M_blanks σ77) (fun _ σ81 => k8 σ81))
set_option maxHeartbeats 4000000 in
set_option maxRecDepth 100000 in
theorem w_M_sum_76 (C : Cx g p s m args meth c A 2 cX12_sum yX12_sum.cls) (hr : meth.sig.returnType = none) {d : Nat} {rc : Nat → CS → Option (Int32 × CS)} (hrc0 : ∀ {l : Launch} {g : EG} {am : Nat → Nat} {Rr : va_W} {σ σ' : CS} {r : Int32}, rc 0  σ = some (r, σ') → CmV l g yX12_sum (.code yX12_sum cX12_sum 2 none) (10 * d) (400 * d) am Rr σ [.ref (am 112)] r σ') (hrc1 : ∀ {l : Launch} {g : EG} {am : Nat → Nat} {Rr : va_W} {σ σ' : CS} {r : Int32}, rc 1  σ = some (r, σ') → CmV l g yX12_product (.code yX12_product cX12_product 2 none) (10 * d) (400 * d) am Rr σ [.ref (am 112)] r σ') (hrc2 : ∀ {l : Launch} {g : EG} {am : Nat → Nat} {Rr : va_W} {σ σ' : CS} {r : Int32}, rc 2  σ = some (r, σ') → CmV l g yX12_unit (.code yX12_unit cX12_unit 3 none) (10 * d) (400 * d) am Rr σ [.ref (am 112)] r σ') (hrc3 : ∀ {l : Launch} {g : EG} {am : Nat → Nat} {Rr : va_W} {σ σ' : CS} {r : Int32}, rc 3  σ = some (r, σ') → CmV l g yX12_ors (.code yX12_ors cX12_ors 1 none) (10 * d) (400 * d) am Rr σ [.ref (am 112)] r σ') (hrc4 : ∀ {l : Launch} {g : EG} {am : Nat → Nat} {Rr : va_W} {σ σ' : CS} {r : Int32}, rc 4  σ = some (r, σ') → CmV l g yX12_ands (.code yX12_ands cX12_ands 1 none) (10 * d) (400 * d) am Rr σ [.ref (am 112)] r σ') (hrc5 : ∀ {l : Launch} {g : EG} {am : Nat → Nat} {Rr : va_W} {σ σ' : CS} {r : Int32}, rc 5  σ = some (r, σ') → CmV l g yX12_test (.code yX12_test cX12_test 2 none) (10 * d) (400 * d) am Rr σ [.ref (am 112)] r σ')  {res : Int32 × CS}   (z1 : Int32) {k8 : CS → Option (Int32 × CS)} (hk8 : ∀  (σ : CS), k8  σ = some res → NMV g p l e s m args below meth c A (10 * d + 10) (400 * d + 400) 2 am Rr res σ [(0, .ref (am 112))] 8 []) (σ : CS) (h : B_M_sum_76 rc k8 z1 σ = some res) : NMV g p l e s m args below meth c A (10 * d + 10) (400 * d + 400) 2 am Rr res σ [(0, .ref (am 112))] 76 [.int z1, .ref (am 112)] := by
  unfold B_M_sum_76 at h
  refine nw_iconst (v := 0) C dX12_sum_76 (by decide) ?_
  refine nm_callVV (q0 := 0) (As := [.int z1, .int 0]) (rest := []) C h (fun _ _ e => c_M_emits e) tw_2098 kv_X12_emits ml_O rfl ⟨by omega, by omega⟩ rfl dX12_sum_77 rfl (Nat.le_of_ble_eq_true rfl) (fun r77 σ77 h => ?_)
  refine nw_aload_n C dX12_sum_80 rfl 0 rfl ?_
  refine nm_callVV (q0 := 0) (As := []) (rest := []) C h (fun _ _ e => c_M_blanks e) tw_2021 kv_X12_blanks ml_O rfl ⟨by omega, by omega⟩ rfl dX12_sum_81 rfl (Nat.le_of_ble_eq_true rfl) (fun r81 σ81 h => ?_)
  refine nw_goto (tgt := 8) C dX12_sum_84 (by decide) ?_
  exact nw_lv (lv' := [(0, .ref (am 112))]) [0] rfl (hk8  _ h)
def B_M_sum_41 (rc : Nat → CS → Option (Int32 × CS)) (k8 : CS → Option (Int32 × CS))   (σ : CS) : Option (Int32 × CS) := bnd (f_M_byteAt (σ.1 23) σ) (fun r46 σ46 => bnd (rc 1 (sF σ46 23 ((σ46.1 23) + 1))) (fun _ σ61 => if r46 = 43 then B_M_sum_76 rc k8 2 σ61 else B_M_sum_76 rc k8 3 σ61))
set_option maxHeartbeats 4000000 in
set_option maxRecDepth 100000 in
theorem w_M_sum_41 (C : Cx g p s m args meth c A 2 cX12_sum yX12_sum.cls) (hr : meth.sig.returnType = none) {d : Nat} {rc : Nat → CS → Option (Int32 × CS)} (hrc0 : ∀ {l : Launch} {g : EG} {am : Nat → Nat} {Rr : va_W} {σ σ' : CS} {r : Int32}, rc 0  σ = some (r, σ') → CmV l g yX12_sum (.code yX12_sum cX12_sum 2 none) (10 * d) (400 * d) am Rr σ [.ref (am 112)] r σ') (hrc1 : ∀ {l : Launch} {g : EG} {am : Nat → Nat} {Rr : va_W} {σ σ' : CS} {r : Int32}, rc 1  σ = some (r, σ') → CmV l g yX12_product (.code yX12_product cX12_product 2 none) (10 * d) (400 * d) am Rr σ [.ref (am 112)] r σ') (hrc2 : ∀ {l : Launch} {g : EG} {am : Nat → Nat} {Rr : va_W} {σ σ' : CS} {r : Int32}, rc 2  σ = some (r, σ') → CmV l g yX12_unit (.code yX12_unit cX12_unit 3 none) (10 * d) (400 * d) am Rr σ [.ref (am 112)] r σ') (hrc3 : ∀ {l : Launch} {g : EG} {am : Nat → Nat} {Rr : va_W} {σ σ' : CS} {r : Int32}, rc 3  σ = some (r, σ') → CmV l g yX12_ors (.code yX12_ors cX12_ors 1 none) (10 * d) (400 * d) am Rr σ [.ref (am 112)] r σ') (hrc4 : ∀ {l : Launch} {g : EG} {am : Nat → Nat} {Rr : va_W} {σ σ' : CS} {r : Int32}, rc 4  σ = some (r, σ') → CmV l g yX12_ands (.code yX12_ands cX12_ands 1 none) (10 * d) (400 * d) am Rr σ [.ref (am 112)] r σ') (hrc5 : ∀ {l : Launch} {g : EG} {am : Nat → Nat} {Rr : va_W} {σ σ' : CS} {r : Int32}, rc 5  σ = some (r, σ') → CmV l g yX12_test (.code yX12_test cX12_test 2 none) (10 * d) (400 * d) am Rr σ [.ref (am 112)] r σ')  {res : Int32 × CS}    {k8 : CS → Option (Int32 × CS)} (hk8 : ∀  (σ : CS), k8  σ = some res → NMV g p l e s m args below meth c A (10 * d + 10) (400 * d + 400) 2 am Rr res σ [(0, .ref (am 112))] 8 []) (σ : CS) (h : B_M_sum_41 rc k8 σ = some res) : NMV g p l e s m args below meth c A (10 * d + 10) (400 * d + 400) 2 am Rr res σ [(0, .ref (am 112))] 41 [] := by
  unfold B_M_sum_41 at h
  refine nw_aload_n C dX12_sum_41 rfl 0 rfl ?_
  refine nw_aload_n C dX12_sum_42 rfl 0 rfl ?_
  refine nw_get (v := .int (σ.1 23)) C in_X12 0 ml_O rfl 23 (by decide) tw_1596 rfl mf_23 dX12_sum_43 ?_
  refine nm_callVI (q0 := 0) (As := [.int (σ.1 23)]) (rest := []) C h (fun _ _ e => c_M_byteAt e) tw_2025 kv_X12_byteAt ml_O rfl ⟨by omega, by omega⟩ rfl dX12_sum_46 rfl (Nat.le_of_ble_eq_true rfl) (fun r46 σ46 h => ?_)
  refine nw_istore_n (lv' := [(1, .int r46), (0, .ref (am 112))]) C dX12_sum_49 rfl (by decide) rfl ?_
  refine nw_aload_n C dX12_sum_50 rfl 1 rfl ?_
  refine nw_dup C dX12_sum_51 rfl ?_
  refine nw_get (v := .int (σ46.1 23)) C in_X12 0 ml_O rfl 23 (by decide) tw_1596 rfl mf_23 dX12_sum_52 ?_
  refine nw_iconst (v := 1) C dX12_sum_55 (by decide) ?_
  refine nw_iadd C dX12_sum_56 ?_
  refine nw_put (ty := .int) C in_X12 0 ml_O rfl 23 (by decide) tyX12 tyX12_ok nmX12 tw_1596 rfl rfl (by decide +kernel) rfl rfl (Nat.le_of_ble_eq_true rfl) dX12_sum_57 ms_23 ?_
  refine nw_aload_n C dX12_sum_60 rfl 1 rfl ?_
  refine nm_callVV (q0 := 0) (As := []) (rest := []) C h (fun _ _ e => hrc1 e) tw_2083 kv_X12_product ml_O rfl ⟨by omega, by omega⟩ rfl dX12_sum_61 rfl (Nat.le_of_ble_eq_true rfl) (fun r61 σ61 h => ?_)
  refine nw_aload_n C dX12_sum_64 rfl 1 rfl ?_
  refine nw_iload_n C dX12_sum_65 rfl 0 rfl ?_
  refine nw_bipush (v := 43) C dX12_sum_66 (by decide) ?_
  refine nw_icmp_ne (tgt := 75) C dX12_sum_68 (by decide) h (fun _ h => ?_) (fun _ h => ?_)
  · refine nw_iconst (v := 2) C dX12_sum_71 (by decide) ?_
    refine nw_goto (tgt := 76) C dX12_sum_72 (by decide) ?_
    exact nw_lv (lv' := [(0, .ref (am 112))]) [1] rfl (w_M_sum_76 C hr hrc0 hrc1 hrc2 hrc3 hrc4 hrc5 2 hk8 _ h)
  · refine nw_iconst (v := 3) C dX12_sum_75 (by decide) ?_
    exact nw_lv (lv' := [(0, .ref (am 112))]) [1] rfl (w_M_sum_76 C hr hrc0 hrc1 hrc2 hrc3 hrc4 hrc5 3 hk8 _ h)
def L_M_sum_8 (rc : Nat → CS → Option (Int32 × CS))   : Nat → CS → Option (Int32 × CS)
  | 0, _ => none
  | n + 1, σ => if (σ.1 24) = 0 then bnd (f_M_byteAt (σ.1 23) σ) (fun r20 σ20 => if r20 = 43 then B_M_sum_41 rc (L_M_sum_8 rc n) σ20 else bnd (f_M_byteAt (σ20.1 23) σ20) (fun r33 σ33 => if r33 = 45 then B_M_sum_41 rc (L_M_sum_8 rc n) σ33 else some (0, σ33))) else some (0, σ)
set_option maxHeartbeats 4000000 in
set_option maxRecDepth 100000 in
theorem w_M_sum_8 (C : Cx g p s m args meth c A 2 cX12_sum yX12_sum.cls) (hr : meth.sig.returnType = none) {d : Nat} {rc : Nat → CS → Option (Int32 × CS)} (hrc0 : ∀ {l : Launch} {g : EG} {am : Nat → Nat} {Rr : va_W} {σ σ' : CS} {r : Int32}, rc 0  σ = some (r, σ') → CmV l g yX12_sum (.code yX12_sum cX12_sum 2 none) (10 * d) (400 * d) am Rr σ [.ref (am 112)] r σ') (hrc1 : ∀ {l : Launch} {g : EG} {am : Nat → Nat} {Rr : va_W} {σ σ' : CS} {r : Int32}, rc 1  σ = some (r, σ') → CmV l g yX12_product (.code yX12_product cX12_product 2 none) (10 * d) (400 * d) am Rr σ [.ref (am 112)] r σ') (hrc2 : ∀ {l : Launch} {g : EG} {am : Nat → Nat} {Rr : va_W} {σ σ' : CS} {r : Int32}, rc 2  σ = some (r, σ') → CmV l g yX12_unit (.code yX12_unit cX12_unit 3 none) (10 * d) (400 * d) am Rr σ [.ref (am 112)] r σ') (hrc3 : ∀ {l : Launch} {g : EG} {am : Nat → Nat} {Rr : va_W} {σ σ' : CS} {r : Int32}, rc 3  σ = some (r, σ') → CmV l g yX12_ors (.code yX12_ors cX12_ors 1 none) (10 * d) (400 * d) am Rr σ [.ref (am 112)] r σ') (hrc4 : ∀ {l : Launch} {g : EG} {am : Nat → Nat} {Rr : va_W} {σ σ' : CS} {r : Int32}, rc 4  σ = some (r, σ') → CmV l g yX12_ands (.code yX12_ands cX12_ands 1 none) (10 * d) (400 * d) am Rr σ [.ref (am 112)] r σ') (hrc5 : ∀ {l : Launch} {g : EG} {am : Nat → Nat} {Rr : va_W} {σ σ' : CS} {r : Int32}, rc 5  σ = some (r, σ') → CmV l g yX12_test (.code yX12_test cX12_test 2 none) (10 * d) (400 * d) am Rr σ [.ref (am 112)] r σ')  {res : Int32 × CS}    : ∀ (n : Nat)  (σ : CS), L_M_sum_8 rc n σ = some res → NMV g p l e s m args below meth c A (10 * d + 10) (400 * d + 400) 2 am Rr res σ [(0, .ref (am 112))] 8 [] := by
  intro n
  induction n with
  | zero =>
    intro  σ h
    exact absurd (show (none : Option (Int32 × CS)) = some res from h) (by intro h9; cases h9)
  | succ n ih =>
    intro  σ h
    rw [L_M_sum_8] at h
    refine nw_aload_n C dX12_sum_8 rfl 0 rfl ?_
    refine nw_get (v := .int (σ.1 24)) C in_X12 0 ml_O rfl 24 (by decide) tw_1597 rfl mf_24 dX12_sum_9 ?_
    refine nw_if_ne (tgt := 87) C dX12_sum_12 (by decide) h (fun _ h => ?_) (fun _ h => ?_)
    · refine nw_aload_n C dX12_sum_15 rfl 0 rfl ?_
      refine nw_aload_n C dX12_sum_16 rfl 0 rfl ?_
      refine nw_get (v := .int (σ.1 23)) C in_X12 0 ml_O rfl 23 (by decide) tw_1596 rfl mf_23 dX12_sum_17 ?_
      refine nm_callVI (q0 := 0) (As := [.int (σ.1 23)]) (rest := []) C h (fun _ _ e => c_M_byteAt e) tw_2025 kv_X12_byteAt ml_O rfl ⟨by omega, by omega⟩ rfl dX12_sum_20 rfl (Nat.le_of_ble_eq_true rfl) (fun r20 σ20 h => ?_)
      refine nw_bipush (v := 43) C dX12_sum_23 (by decide) ?_
      refine nw_icmp_eq (tgt := 41) C dX12_sum_25 (by decide) h (fun _ h => ?_) (fun _ h => ?_)
      · exact nw_lv (lv' := [(0, .ref (am 112))]) [0] rfl (w_M_sum_41 C hr hrc0 hrc1 hrc2 hrc3 hrc4 hrc5 ih _ h)
      · refine nw_aload_n C dX12_sum_28 rfl 0 rfl ?_
        refine nw_aload_n C dX12_sum_29 rfl 0 rfl ?_
        refine nw_get (v := .int (σ20.1 23)) C in_X12 0 ml_O rfl 23 (by decide) tw_1596 rfl mf_23 dX12_sum_30 ?_
        refine nm_callVI (q0 := 0) (As := [.int (σ20.1 23)]) (rest := []) C h (fun _ _ e => c_M_byteAt e) tw_2025 kv_X12_byteAt ml_O rfl ⟨by omega, by omega⟩ rfl dX12_sum_33 rfl (Nat.le_of_ble_eq_true rfl) (fun r33 σ33 h => ?_)
        refine nw_bipush (v := 45) C dX12_sum_36 (by decide) ?_
        refine nw_icmp_ne (tgt := 87) C dX12_sum_38 (by decide) h (fun _ h => ?_) (fun _ h => ?_)
        · exact nw_lv (lv' := [(0, .ref (am 112))]) [0] rfl (w_M_sum_41 C hr hrc0 hrc1 hrc2 hrc3 hrc4 hrc5 ih _ h)
        · exact nm_vret C hr dX12_sum_87 h
    · exact nm_vret C hr dX12_sum_87 h
def f_M_sum (rc : Nat → CS → Option (Int32 × CS))  (σ : CS) : Option (Int32 × CS) := bnd (rc 1 σ) (fun _ σ1 => bnd (f_M_blanks σ1) (fun _ σ5 => L_M_sum_8 rc FU σ5))
set_option maxHeartbeats 4000000 in
set_option maxRecDepth 100000 in
theorem c_M_sum {l : Launch} {g : EG} {am : Nat → Nat} {Rr : va_W} {σ σ' : CS} {r : Int32}  {d : Nat} {rc : Nat → CS → Option (Int32 × CS)} (hrc0 : ∀ {l : Launch} {g : EG} {am : Nat → Nat} {Rr : va_W} {σ σ' : CS} {r : Int32}, rc 0  σ = some (r, σ') → CmV l g yX12_sum (.code yX12_sum cX12_sum 2 none) (10 * d) (400 * d) am Rr σ [.ref (am 112)] r σ') (hrc1 : ∀ {l : Launch} {g : EG} {am : Nat → Nat} {Rr : va_W} {σ σ' : CS} {r : Int32}, rc 1  σ = some (r, σ') → CmV l g yX12_product (.code yX12_product cX12_product 2 none) (10 * d) (400 * d) am Rr σ [.ref (am 112)] r σ') (hrc2 : ∀ {l : Launch} {g : EG} {am : Nat → Nat} {Rr : va_W} {σ σ' : CS} {r : Int32}, rc 2  σ = some (r, σ') → CmV l g yX12_unit (.code yX12_unit cX12_unit 3 none) (10 * d) (400 * d) am Rr σ [.ref (am 112)] r σ') (hrc3 : ∀ {l : Launch} {g : EG} {am : Nat → Nat} {Rr : va_W} {σ σ' : CS} {r : Int32}, rc 3  σ = some (r, σ') → CmV l g yX12_ors (.code yX12_ors cX12_ors 1 none) (10 * d) (400 * d) am Rr σ [.ref (am 112)] r σ') (hrc4 : ∀ {l : Launch} {g : EG} {am : Nat → Nat} {Rr : va_W} {σ σ' : CS} {r : Int32}, rc 4  σ = some (r, σ') → CmV l g yX12_ands (.code yX12_ands cX12_ands 1 none) (10 * d) (400 * d) am Rr σ [.ref (am 112)] r σ') (hrc5 : ∀ {l : Launch} {g : EG} {am : Nat → Nat} {Rr : va_W} {σ σ' : CS} {r : Int32}, rc 5  σ = some (r, σ') → CmV l g yX12_test (.code yX12_test cX12_test 2 none) (10 * d) (400 * d) am Rr σ [.ref (am 112)] r σ')  (h : f_M_sum rc σ = some (r, σ')) : CmV l g yX12_sum (.code yX12_sum cX12_sum 2 none) (10 * d + 10) (400 * d + 400) am Rr σ [.ref (am 112)] r σ' := by
  refine Ct.of rfl (by decide) (Nat.le_of_ble_eq_true rfl) ?_
  intro p e s m args below meth c A C hr
  show NMV g p l e s m args below meth c A (10 * d + 10) (400 * d + 400) 2 am Rr (r, σ') σ [(0, .ref (am 112))] 0 []
  unfold f_M_sum at h
  refine nw_aload_n C dX12_sum_0 rfl 0 rfl ?_
  refine nm_callVV (q0 := 0) (As := []) (rest := []) C h (fun _ _ e => hrc1 e) tw_2083 kv_X12_product ml_O rfl ⟨by omega, by omega⟩ rfl dX12_sum_1 rfl (Nat.le_of_ble_eq_true rfl) (fun r1 σ1 h => ?_)
  refine nw_aload_n C dX12_sum_4 rfl 0 rfl ?_
  refine nm_callVV (q0 := 0) (As := []) (rest := []) C h (fun _ _ e => c_M_blanks e) tw_2021 kv_X12_blanks ml_O rfl ⟨by omega, by omega⟩ rfl dX12_sum_5 rfl (Nat.le_of_ble_eq_true rfl) (fun r5 σ5 h => ?_)
  exact nw_lv (lv' := [(0, .ref (am 112))]) [0] rfl (w_M_sum_8 C hr hrc0 hrc1 hrc2 hrc3 hrc4 hrc5 FU _ h)
theorem dX12_test_0 : decode cX12_test 0 = .ok (.aload_n 0, 1) := by decide +kernel
theorem dX12_test_1 : decode cX12_test 1 = .ok (.getfield 349, 3) := by decide +kernel
theorem dX12_test_4 : decode cX12_test 4 = .ok (.ifCond .le 4, 3) := by decide +kernel
theorem dX12_test_7 : decode cX12_test 7 = .ok (.return_, 1) := by decide +kernel
theorem dX12_test_8 : decode cX12_test 8 = .ok (.aload_n 0, 1) := by decide +kernel
theorem dX12_test_9 : decode cX12_test 9 = .ok (.invokevirtual 352, 3) := by decide +kernel
theorem dX12_test_12 : decode cX12_test 12 = .ok (.aload_n 0, 1) := by decide +kernel
theorem dX12_test_13 : decode cX12_test 13 = .ok (.ldc_w 474, 3) := by decide +kernel
theorem dX12_test_16 : decode cX12_test 16 = .ok (.invokevirtual 364, 3) := by decide +kernel
theorem dX12_test_19 : decode cX12_test 19 = .ok (.ifCond .eq 30, 3) := by decide +kernel
theorem dX12_test_22 : decode cX12_test 22 = .ok (.aload_n 0, 1) := by decide +kernel
theorem dX12_test_23 : decode cX12_test 23 = .ok (.iconst 3, 1) := by decide +kernel
theorem dX12_test_24 : decode cX12_test 24 = .ok (.invokevirtual 455, 3) := by decide +kernel
theorem dX12_test_27 : decode cX12_test 27 = .ok (.aload_n 0, 1) := by decide +kernel
theorem dX12_test_28 : decode cX12_test 28 = .ok (.invokevirtual 469, 3) := by decide +kernel
theorem dX12_test_31 : decode cX12_test 31 = .ok (.aload_n 0, 1) := by decide +kernel
theorem dX12_test_32 : decode cX12_test 32 = .ok (.dup, 1) := by decide +kernel
theorem dX12_test_33 : decode cX12_test 33 = .ok (.getfield 428, 3) := by decide +kernel
theorem dX12_test_36 : decode cX12_test 36 = .ok (.iconst 1, 1) := by decide +kernel
theorem dX12_test_37 : decode cX12_test 37 = .ok (.isub, 1) := by decide +kernel
theorem dX12_test_38 : decode cX12_test 38 = .ok (.putfield 428, 3) := by decide +kernel
theorem dX12_test_41 : decode cX12_test 41 = .ok (.aload_n 0, 1) := by decide +kernel
theorem dX12_test_42 : decode cX12_test 42 = .ok (.bipush 10, 2) := by decide +kernel
theorem dX12_test_44 : decode cX12_test 44 = .ok (.iconst 0, 1) := by decide +kernel
theorem dX12_test_45 : decode cX12_test 45 = .ok (.invokevirtual 438, 3) := by decide +kernel
theorem dX12_test_48 : decode cX12_test 48 = .ok (.return_, 1) := by decide +kernel
theorem dX12_test_49 : decode cX12_test 49 = .ok (.aload_n 0, 1) := by decide +kernel
theorem dX12_test_50 : decode cX12_test 50 = .ok (.aload_n 0, 1) := by decide +kernel
theorem dX12_test_51 : decode cX12_test 51 = .ok (.getfield 343, 3) := by decide +kernel
theorem dX12_test_54 : decode cX12_test 54 = .ok (.invokevirtual 346, 3) := by decide +kernel
theorem dX12_test_57 : decode cX12_test 57 = .ok (.bipush 91, 2) := by decide +kernel
theorem dX12_test_59 : decode cX12_test 59 = .ok (.if_icmp .ne 19, 3) := by decide +kernel
theorem dX12_test_62 : decode cX12_test 62 = .ok (.aload_n 0, 1) := by decide +kernel
theorem dX12_test_63 : decode cX12_test 63 = .ok (.iconst 1, 1) := by decide +kernel
theorem dX12_test_64 : decode cX12_test 64 = .ok (.invokevirtual 455, 3) := by decide +kernel
theorem dX12_test_67 : decode cX12_test 67 = .ok (.aload_n 0, 1) := by decide +kernel
theorem dX12_test_68 : decode cX12_test 68 = .ok (.invokevirtual 476, 3) := by decide +kernel
theorem dX12_test_71 : decode cX12_test 71 = .ok (.aload_n 0, 1) := by decide +kernel
theorem dX12_test_72 : decode cX12_test 72 = .ok (.bipush 93, 2) := by decide +kernel
theorem dX12_test_74 : decode cX12_test 74 = .ok (.invokevirtual 461, 3) := by decide +kernel
theorem dX12_test_77 : decode cX12_test 77 = .ok (.return_, 1) := by decide +kernel
theorem dX12_test_78 : decode cX12_test 78 = .ok (.aload_n 0, 1) := by decide +kernel
theorem dX12_test_79 : decode cX12_test 79 = .ok (.invokevirtual 458, 3) := by decide +kernel
theorem dX12_test_82 : decode cX12_test 82 = .ok (.aload_n 0, 1) := by decide +kernel
theorem dX12_test_83 : decode cX12_test 83 = .ok (.getfield 349, 3) := by decide +kernel
theorem dX12_test_86 : decode cX12_test 86 = .ok (.ifCond .le 4, 3) := by decide +kernel
theorem dX12_test_89 : decode cX12_test 89 = .ok (.return_, 1) := by decide +kernel
theorem dX12_test_90 : decode cX12_test 90 = .ok (.aload_n 0, 1) := by decide +kernel
theorem dX12_test_91 : decode cX12_test 91 = .ok (.invokevirtual 352, 3) := by decide +kernel
theorem dX12_test_94 : decode cX12_test 94 = .ok (.aload_n 0, 1) := by decide +kernel
theorem dX12_test_95 : decode cX12_test 95 = .ok (.aload_n 0, 1) := by decide +kernel
theorem dX12_test_96 : decode cX12_test 96 = .ok (.getfield 343, 3) := by decide +kernel
theorem dX12_test_99 : decode cX12_test 99 = .ok (.invokevirtual 346, 3) := by decide +kernel
theorem dX12_test_102 : decode cX12_test 102 = .ok (.istore_n 1, 1) := by decide +kernel
theorem dX12_test_103 : decode cX12_test 103 = .ok (.iload_n 1, 1) := by decide +kernel
theorem dX12_test_104 : decode cX12_test 104 = .ok (.bipush 60, 2) := by decide +kernel
theorem dX12_test_106 : decode cX12_test 106 = .ok (.if_icmp .eq 25, 3) := by decide +kernel
theorem dX12_test_109 : decode cX12_test 109 = .ok (.iload_n 1, 1) := by decide +kernel
theorem dX12_test_110 : decode cX12_test 110 = .ok (.bipush 62, 2) := by decide +kernel
theorem dX12_test_112 : decode cX12_test 112 = .ok (.if_icmp .eq 19, 3) := by decide +kernel
theorem dX12_test_115 : decode cX12_test 115 = .ok (.iload_n 1, 1) := by decide +kernel
theorem dX12_test_116 : decode cX12_test 116 = .ok (.bipush 61, 2) := by decide +kernel
theorem dX12_test_118 : decode cX12_test 118 = .ok (.if_icmp .eq 13, 3) := by decide +kernel
theorem dX12_test_121 : decode cX12_test 121 = .ok (.aload_n 0, 1) := by decide +kernel
theorem dX12_test_122 : decode cX12_test 122 = .ok (.iconst 1, 1) := by decide +kernel
theorem dX12_test_123 : decode cX12_test 123 = .ok (.aload_n 0, 1) := by decide +kernel
theorem dX12_test_124 : decode cX12_test 124 = .ok (.getfield 343, 3) := by decide +kernel
theorem dX12_test_127 : decode cX12_test 127 = .ok (.invokevirtual 416, 3) := by decide +kernel
theorem dX12_test_130 : decode cX12_test 130 = .ok (.return_, 1) := by decide +kernel
theorem dX12_test_131 : decode cX12_test 131 = .ok (.aload_n 0, 1) := by decide +kernel
theorem dX12_test_132 : decode cX12_test 132 = .ok (.dup, 1) := by decide +kernel
theorem dX12_test_133 : decode cX12_test 133 = .ok (.getfield 343, 3) := by decide +kernel
theorem dX12_test_136 : decode cX12_test 136 = .ok (.iconst 1, 1) := by decide +kernel
theorem dX12_test_137 : decode cX12_test 137 = .ok (.iadd, 1) := by decide +kernel
theorem dX12_test_138 : decode cX12_test 138 = .ok (.putfield 343, 3) := by decide +kernel
theorem dX12_test_141 : decode cX12_test 141 = .ok (.aload_n 0, 1) := by decide +kernel
theorem dX12_test_142 : decode cX12_test 142 = .ok (.invokevirtual 458, 3) := by decide +kernel
theorem dX12_test_145 : decode cX12_test 145 = .ok (.aload_n 0, 1) := by decide +kernel
theorem dX12_test_146 : decode cX12_test 146 = .ok (.iload_n 1, 1) := by decide +kernel
theorem dX12_test_147 : decode cX12_test 147 = .ok (.bipush 60, 2) := by decide +kernel
theorem dX12_test_149 : decode cX12_test 149 = .ok (.if_icmp .ne 8, 3) := by decide +kernel
theorem dX12_test_152 : decode cX12_test 152 = .ok (.bipush 11, 2) := by decide +kernel
theorem dX12_test_154 : decode cX12_test 154 = .ok (.goto 16, 3) := by decide +kernel
theorem dX12_test_157 : decode cX12_test 157 = .ok (.iload_n 1, 1) := by decide +kernel
theorem dX12_test_158 : decode cX12_test 158 = .ok (.bipush 62, 2) := by decide +kernel
theorem dX12_test_160 : decode cX12_test 160 = .ok (.if_icmp .ne 8, 3) := by decide +kernel
theorem dX12_test_163 : decode cX12_test 163 = .ok (.bipush 12, 2) := by decide +kernel
theorem dX12_test_165 : decode cX12_test 165 = .ok (.goto 5, 3) := by decide +kernel
theorem dX12_test_168 : decode cX12_test 168 = .ok (.bipush 13, 2) := by decide +kernel
theorem dX12_test_170 : decode cX12_test 170 = .ok (.iconst 0, 1) := by decide +kernel
theorem dX12_test_171 : decode cX12_test 171 = .ok (.invokevirtual 438, 3) := by decide +kernel
theorem dX12_test_174 : decode cX12_test 174 = .ok (.return_, 1) := by decide +kernel
def B_M_test_170 (rc : Nat → CS → Option (Int32 × CS))   (z1 : Int32) (σ : CS) : Option (Int32 × CS) := bnd (f_M_emits z1 0 σ) (fun _ σ171 => some (0, σ171))
set_option maxHeartbeats 4000000 in
set_option maxRecDepth 100000 in
theorem w_M_test_170 (C : Cx g p s m args meth c A 2 cX12_test yX12_test.cls) (hr : meth.sig.returnType = none) {d : Nat} {rc : Nat → CS → Option (Int32 × CS)} (hrc0 : ∀ {l : Launch} {g : EG} {am : Nat → Nat} {Rr : va_W} {σ σ' : CS} {r : Int32}, rc 0  σ = some (r, σ') → CmV l g yX12_sum (.code yX12_sum cX12_sum 2 none) (10 * d) (400 * d) am Rr σ [.ref (am 112)] r σ') (hrc1 : ∀ {l : Launch} {g : EG} {am : Nat → Nat} {Rr : va_W} {σ σ' : CS} {r : Int32}, rc 1  σ = some (r, σ') → CmV l g yX12_product (.code yX12_product cX12_product 2 none) (10 * d) (400 * d) am Rr σ [.ref (am 112)] r σ') (hrc2 : ∀ {l : Launch} {g : EG} {am : Nat → Nat} {Rr : va_W} {σ σ' : CS} {r : Int32}, rc 2  σ = some (r, σ') → CmV l g yX12_unit (.code yX12_unit cX12_unit 3 none) (10 * d) (400 * d) am Rr σ [.ref (am 112)] r σ') (hrc3 : ∀ {l : Launch} {g : EG} {am : Nat → Nat} {Rr : va_W} {σ σ' : CS} {r : Int32}, rc 3  σ = some (r, σ') → CmV l g yX12_ors (.code yX12_ors cX12_ors 1 none) (10 * d) (400 * d) am Rr σ [.ref (am 112)] r σ') (hrc4 : ∀ {l : Launch} {g : EG} {am : Nat → Nat} {Rr : va_W} {σ σ' : CS} {r : Int32}, rc 4  σ = some (r, σ') → CmV l g yX12_ands (.code yX12_ands cX12_ands 1 none) (10 * d) (400 * d) am Rr σ [.ref (am 112)] r σ') (hrc5 : ∀ {l : Launch} {g : EG} {am : Nat → Nat} {Rr : va_W} {σ σ' : CS} {r : Int32}, rc 5  σ = some (r, σ') → CmV l g yX12_test (.code yX12_test cX12_test 2 none) (10 * d) (400 * d) am Rr σ [.ref (am 112)] r σ')  {res : Int32 × CS}   (z1 : Int32)  (σ : CS) (h : B_M_test_170 rc z1 σ = some res) : NMV g p l e s m args below meth c A (10 * d + 10) (400 * d + 400) 2 am Rr res σ [] 170 [.int z1, .ref (am 112)] := by
  unfold B_M_test_170 at h
  refine nw_iconst (v := 0) C dX12_test_170 (by decide) ?_
  refine nm_callVV (q0 := 0) (As := [.int z1, .int 0]) (rest := []) C h (fun _ _ e => c_M_emits e) tw_2098 kv_X12_emits ml_O rfl ⟨by omega, by omega⟩ rfl dX12_test_171 rfl (Nat.le_of_ble_eq_true rfl) (fun r171 σ171 h => ?_)
  exact nm_vret C hr dX12_test_174 h
def B_M_test_131 (rc : Nat → CS → Option (Int32 × CS))   (x1 : Int32) (σ : CS) : Option (Int32 × CS) := bnd (rc 0 (sF σ 23 ((σ.1 23) + 1))) (fun _ σ142 => if x1 = 60 then B_M_test_170 rc 11 σ142 else if x1 = 62 then B_M_test_170 rc 12 σ142 else B_M_test_170 rc 13 σ142)
set_option maxHeartbeats 4000000 in
set_option maxRecDepth 100000 in
theorem w_M_test_131 (C : Cx g p s m args meth c A 2 cX12_test yX12_test.cls) (hr : meth.sig.returnType = none) {d : Nat} {rc : Nat → CS → Option (Int32 × CS)} (hrc0 : ∀ {l : Launch} {g : EG} {am : Nat → Nat} {Rr : va_W} {σ σ' : CS} {r : Int32}, rc 0  σ = some (r, σ') → CmV l g yX12_sum (.code yX12_sum cX12_sum 2 none) (10 * d) (400 * d) am Rr σ [.ref (am 112)] r σ') (hrc1 : ∀ {l : Launch} {g : EG} {am : Nat → Nat} {Rr : va_W} {σ σ' : CS} {r : Int32}, rc 1  σ = some (r, σ') → CmV l g yX12_product (.code yX12_product cX12_product 2 none) (10 * d) (400 * d) am Rr σ [.ref (am 112)] r σ') (hrc2 : ∀ {l : Launch} {g : EG} {am : Nat → Nat} {Rr : va_W} {σ σ' : CS} {r : Int32}, rc 2  σ = some (r, σ') → CmV l g yX12_unit (.code yX12_unit cX12_unit 3 none) (10 * d) (400 * d) am Rr σ [.ref (am 112)] r σ') (hrc3 : ∀ {l : Launch} {g : EG} {am : Nat → Nat} {Rr : va_W} {σ σ' : CS} {r : Int32}, rc 3  σ = some (r, σ') → CmV l g yX12_ors (.code yX12_ors cX12_ors 1 none) (10 * d) (400 * d) am Rr σ [.ref (am 112)] r σ') (hrc4 : ∀ {l : Launch} {g : EG} {am : Nat → Nat} {Rr : va_W} {σ σ' : CS} {r : Int32}, rc 4  σ = some (r, σ') → CmV l g yX12_ands (.code yX12_ands cX12_ands 1 none) (10 * d) (400 * d) am Rr σ [.ref (am 112)] r σ') (hrc5 : ∀ {l : Launch} {g : EG} {am : Nat → Nat} {Rr : va_W} {σ σ' : CS} {r : Int32}, rc 5  σ = some (r, σ') → CmV l g yX12_test (.code yX12_test cX12_test 2 none) (10 * d) (400 * d) am Rr σ [.ref (am 112)] r σ')  {res : Int32 × CS}   (x1 : Int32)  (σ : CS) (h : B_M_test_131 rc x1 σ = some res) : NMV g p l e s m args below meth c A (10 * d + 10) (400 * d + 400) 2 am Rr res σ [(0, .ref (am 112)), (1, .int x1)] 131 [] := by
  unfold B_M_test_131 at h
  refine nw_aload_n C dX12_test_131 rfl 0 rfl ?_
  refine nw_dup C dX12_test_132 rfl ?_
  refine nw_get (v := .int (σ.1 23)) C in_X12 0 ml_O rfl 23 (by decide) tw_1596 rfl mf_23 dX12_test_133 ?_
  refine nw_iconst (v := 1) C dX12_test_136 (by decide) ?_
  refine nw_iadd C dX12_test_137 ?_
  refine nw_put (ty := .int) C in_X12 0 ml_O rfl 23 (by decide) tyX12 tyX12_ok nmX12 tw_1596 rfl rfl (by decide +kernel) rfl rfl (Nat.le_of_ble_eq_true rfl) dX12_test_138 ms_23 ?_
  refine nw_aload_n C dX12_test_141 rfl 0 rfl ?_
  refine nm_callVV (q0 := 0) (As := []) (rest := []) C h (fun _ _ e => hrc0 e) tw_2079 kv_X12_sum ml_O rfl ⟨by omega, by omega⟩ rfl dX12_test_142 rfl (Nat.le_of_ble_eq_true rfl) (fun r142 σ142 h => ?_)
  refine nw_aload_n C dX12_test_145 rfl 0 rfl ?_
  refine nw_iload_n C dX12_test_146 rfl 1 rfl ?_
  refine nw_bipush (v := 60) C dX12_test_147 (by decide) ?_
  refine nw_icmp_ne (tgt := 157) C dX12_test_149 (by decide) h (fun _ h => ?_) (fun _ h => ?_)
  · refine nw_bipush (v := 11) C dX12_test_152 (by decide) ?_
    refine nw_goto (tgt := 170) C dX12_test_154 (by decide) ?_
    exact nw_lv (lv' := []) [] rfl (w_M_test_170 C hr hrc0 hrc1 hrc2 hrc3 hrc4 hrc5 11 _ h)
  · refine nw_iload_n C dX12_test_157 rfl 1 rfl ?_
    refine nw_bipush (v := 62) C dX12_test_158 (by decide) ?_
    refine nw_icmp_ne (tgt := 168) C dX12_test_160 (by decide) h (fun _ h => ?_) (fun _ h => ?_)
    · refine nw_bipush (v := 12) C dX12_test_163 (by decide) ?_
      refine nw_goto (tgt := 170) C dX12_test_165 (by decide) ?_
      exact nw_lv (lv' := []) [] rfl (w_M_test_170 C hr hrc0 hrc1 hrc2 hrc3 hrc4 hrc5 12 _ h)
    · refine nw_bipush (v := 13) C dX12_test_168 (by decide) ?_
      exact nw_lv (lv' := []) [] rfl (w_M_test_170 C hr hrc0 hrc1 hrc2 hrc3 hrc4 hrc5 13 _ h)
def f_M_test (rc : Nat → CS → Option (Int32 × CS))  (σ : CS) : Option (Int32 × CS) := if (σ.1 24) ≤ 0 then bnd (f_M_blanks σ) (fun _ σ9 => bnd (f_M_isWord 35 σ9) (fun r16 σ16 => if r16 = 0 then bnd (f_M_byteAt (σ16.1 23) σ16) (fun r54 σ54 => if r54 = 91 then bnd (f_M_opens 1 σ54) (fun _ σ64 => bnd (rc 3 σ64) (fun _ σ68 => bnd (f_M_closes 93 σ68) (fun _ σ74 => some (0, σ74)))) else bnd (rc 0 σ54) (fun _ σ79 => if (σ79.1 24) ≤ 0 then bnd (f_M_blanks σ79) (fun _ σ91 => bnd (f_M_byteAt (σ91.1 23) σ91) (fun r99 σ99 => if r99 = 60 then B_M_test_131 rc r99 σ99 else if r99 = 62 then B_M_test_131 rc r99 σ99 else if r99 = 61 then B_M_test_131 rc r99 σ99 else bnd (f_M_wrong 1 (σ99.1 23) σ99) (fun _ σ127 => some (0, σ127)))) else some (0, σ79))) else bnd (f_M_opens 3 σ16) (fun _ σ24 => bnd (rc 5 σ24) (fun _ σ28 => bnd (f_M_emits 10 0 (sF σ28 26 ((σ28.1 26) - 1))) (fun _ σ45 => some (0, σ45)))))) else some (0, σ)
set_option maxHeartbeats 4000000 in
set_option maxRecDepth 100000 in
theorem c_M_test {l : Launch} {g : EG} {am : Nat → Nat} {Rr : va_W} {σ σ' : CS} {r : Int32}  {d : Nat} {rc : Nat → CS → Option (Int32 × CS)} (hrc0 : ∀ {l : Launch} {g : EG} {am : Nat → Nat} {Rr : va_W} {σ σ' : CS} {r : Int32}, rc 0  σ = some (r, σ') → CmV l g yX12_sum (.code yX12_sum cX12_sum 2 none) (10 * d) (400 * d) am Rr σ [.ref (am 112)] r σ') (hrc1 : ∀ {l : Launch} {g : EG} {am : Nat → Nat} {Rr : va_W} {σ σ' : CS} {r : Int32}, rc 1  σ = some (r, σ') → CmV l g yX12_product (.code yX12_product cX12_product 2 none) (10 * d) (400 * d) am Rr σ [.ref (am 112)] r σ') (hrc2 : ∀ {l : Launch} {g : EG} {am : Nat → Nat} {Rr : va_W} {σ σ' : CS} {r : Int32}, rc 2  σ = some (r, σ') → CmV l g yX12_unit (.code yX12_unit cX12_unit 3 none) (10 * d) (400 * d) am Rr σ [.ref (am 112)] r σ') (hrc3 : ∀ {l : Launch} {g : EG} {am : Nat → Nat} {Rr : va_W} {σ σ' : CS} {r : Int32}, rc 3  σ = some (r, σ') → CmV l g yX12_ors (.code yX12_ors cX12_ors 1 none) (10 * d) (400 * d) am Rr σ [.ref (am 112)] r σ') (hrc4 : ∀ {l : Launch} {g : EG} {am : Nat → Nat} {Rr : va_W} {σ σ' : CS} {r : Int32}, rc 4  σ = some (r, σ') → CmV l g yX12_ands (.code yX12_ands cX12_ands 1 none) (10 * d) (400 * d) am Rr σ [.ref (am 112)] r σ') (hrc5 : ∀ {l : Launch} {g : EG} {am : Nat → Nat} {Rr : va_W} {σ σ' : CS} {r : Int32}, rc 5  σ = some (r, σ') → CmV l g yX12_test (.code yX12_test cX12_test 2 none) (10 * d) (400 * d) am Rr σ [.ref (am 112)] r σ')  (h : f_M_test rc σ = some (r, σ')) : CmV l g yX12_test (.code yX12_test cX12_test 2 none) (10 * d + 10) (400 * d + 400) am Rr σ [.ref (am 112)] r σ' := by
  refine Ct.of rfl (by decide) (Nat.le_of_ble_eq_true rfl) ?_
  intro p e s m args below meth c A C hr
  show NMV g p l e s m args below meth c A (10 * d + 10) (400 * d + 400) 2 am Rr (r, σ') σ [(0, .ref (am 112))] 0 []
  unfold f_M_test at h
  refine nw_aload_n C dX12_test_0 rfl 0 rfl ?_
  refine nw_get (v := .int (σ.1 24)) C in_X12 0 ml_O rfl 24 (by decide) tw_1597 rfl mf_24 dX12_test_1 ?_
  refine nw_if_le (tgt := 8) C dX12_test_4 (by decide) h (fun _ h => ?_) (fun _ h => ?_)
  · refine nw_aload_n C dX12_test_8 rfl 0 rfl ?_
    refine nm_callVV (q0 := 0) (As := []) (rest := []) C h (fun _ _ e => c_M_blanks e) tw_2021 kv_X12_blanks ml_O rfl ⟨by omega, by omega⟩ rfl dX12_test_9 rfl (Nat.le_of_ble_eq_true rfl) (fun r9 σ9 h => ?_)
    refine nw_aload_n C dX12_test_12 rfl 0 rfl ?_
    refine nw_ldsw (i := 35) C (by decide) rfl rfl dX12_test_13 ?_
    refine nm_callVI (q0 := 0) (As := [.ref (gK g 35)]) (rest := []) C h (fun _ _ e => c_M_isWord 35 (by decide) e) tw_2044 kv_X12_isWord ml_O rfl ⟨by omega, by omega⟩ rfl dX12_test_16 rfl (Nat.le_of_ble_eq_true rfl) (fun r16 σ16 h => ?_)
    refine nw_if_eq (tgt := 49) C dX12_test_19 (by decide) h (fun _ h => ?_) (fun _ h => ?_)
    · refine nw_aload_n C dX12_test_49 rfl 0 rfl ?_
      refine nw_aload_n C dX12_test_50 rfl 0 rfl ?_
      refine nw_get (v := .int (σ16.1 23)) C in_X12 0 ml_O rfl 23 (by decide) tw_1596 rfl mf_23 dX12_test_51 ?_
      refine nm_callVI (q0 := 0) (As := [.int (σ16.1 23)]) (rest := []) C h (fun _ _ e => c_M_byteAt e) tw_2025 kv_X12_byteAt ml_O rfl ⟨by omega, by omega⟩ rfl dX12_test_54 rfl (Nat.le_of_ble_eq_true rfl) (fun r54 σ54 h => ?_)
      refine nw_bipush (v := 91) C dX12_test_57 (by decide) ?_
      refine nw_icmp_ne (tgt := 78) C dX12_test_59 (by decide) h (fun _ h => ?_) (fun _ h => ?_)
      · refine nw_aload_n C dX12_test_62 rfl 0 rfl ?_
        refine nw_iconst (v := 1) C dX12_test_63 (by decide) ?_
        refine nm_callVV (q0 := 0) (As := [.int 1]) (rest := []) C h (fun _ _ e => c_M_opens e) tw_2113 kv_X12_opens ml_O rfl ⟨by omega, by omega⟩ rfl dX12_test_64 rfl (Nat.le_of_ble_eq_true rfl) (fun r64 σ64 h => ?_)
        refine nw_aload_n C dX12_test_67 rfl 0 rfl ?_
        refine nm_callVV (q0 := 0) (As := []) (rest := []) C h (fun _ _ e => hrc3 e) tw_2122 kv_X12_ors ml_O rfl ⟨by omega, by omega⟩ rfl dX12_test_68 rfl (Nat.le_of_ble_eq_true rfl) (fun r68 σ68 h => ?_)
        refine nw_aload_n C dX12_test_71 rfl 0 rfl ?_
        refine nw_bipush (v := 93) C dX12_test_72 (by decide) ?_
        refine nm_callVV (q0 := 0) (As := [.int 93]) (rest := []) C h (fun _ _ e => c_M_closes e) tw_2117 kv_X12_closes ml_O rfl ⟨by omega, by omega⟩ rfl dX12_test_74 rfl (Nat.le_of_ble_eq_true rfl) (fun r74 σ74 h => ?_)
        exact nm_vret C hr dX12_test_77 h
      · refine nw_aload_n C dX12_test_78 rfl 0 rfl ?_
        refine nm_callVV (q0 := 0) (As := []) (rest := []) C h (fun _ _ e => hrc0 e) tw_2079 kv_X12_sum ml_O rfl ⟨by omega, by omega⟩ rfl dX12_test_79 rfl (Nat.le_of_ble_eq_true rfl) (fun r79 σ79 h => ?_)
        refine nw_aload_n C dX12_test_82 rfl 0 rfl ?_
        refine nw_get (v := .int (σ79.1 24)) C in_X12 0 ml_O rfl 24 (by decide) tw_1597 rfl mf_24 dX12_test_83 ?_
        refine nw_if_le (tgt := 90) C dX12_test_86 (by decide) h (fun _ h => ?_) (fun _ h => ?_)
        · refine nw_aload_n C dX12_test_90 rfl 0 rfl ?_
          refine nm_callVV (q0 := 0) (As := []) (rest := []) C h (fun _ _ e => c_M_blanks e) tw_2021 kv_X12_blanks ml_O rfl ⟨by omega, by omega⟩ rfl dX12_test_91 rfl (Nat.le_of_ble_eq_true rfl) (fun r91 σ91 h => ?_)
          refine nw_aload_n C dX12_test_94 rfl 0 rfl ?_
          refine nw_aload_n C dX12_test_95 rfl 0 rfl ?_
          refine nw_get (v := .int (σ91.1 23)) C in_X12 0 ml_O rfl 23 (by decide) tw_1596 rfl mf_23 dX12_test_96 ?_
          refine nm_callVI (q0 := 0) (As := [.int (σ91.1 23)]) (rest := []) C h (fun _ _ e => c_M_byteAt e) tw_2025 kv_X12_byteAt ml_O rfl ⟨by omega, by omega⟩ rfl dX12_test_99 rfl (Nat.le_of_ble_eq_true rfl) (fun r99 σ99 h => ?_)
          refine nw_istore_n (lv' := [(1, .int r99), (0, .ref (am 112))]) C dX12_test_102 rfl (by decide) rfl ?_
          refine nw_iload_n C dX12_test_103 rfl 0 rfl ?_
          refine nw_bipush (v := 60) C dX12_test_104 (by decide) ?_
          refine nw_icmp_eq (tgt := 131) C dX12_test_106 (by decide) h (fun _ h => ?_) (fun _ h => ?_)
          · exact nw_lv (lv' := [(0, .ref (am 112)), (1, .int r99)]) [1, 0] rfl (w_M_test_131 C hr hrc0 hrc1 hrc2 hrc3 hrc4 hrc5 r99 _ h)
          · refine nw_iload_n C dX12_test_109 rfl 0 rfl ?_
            refine nw_bipush (v := 62) C dX12_test_110 (by decide) ?_
            refine nw_icmp_eq (tgt := 131) C dX12_test_112 (by decide) h (fun _ h => ?_) (fun _ h => ?_)
            · exact nw_lv (lv' := [(0, .ref (am 112)), (1, .int r99)]) [1, 0] rfl (w_M_test_131 C hr hrc0 hrc1 hrc2 hrc3 hrc4 hrc5 r99 _ h)
            · refine nw_iload_n C dX12_test_115 rfl 0 rfl ?_
              refine nw_bipush (v := 61) C dX12_test_116 (by decide) ?_
              refine nw_icmp_eq (tgt := 131) C dX12_test_118 (by decide) h (fun _ h => ?_) (fun _ h => ?_)
              · exact nw_lv (lv' := [(0, .ref (am 112)), (1, .int r99)]) [1, 0] rfl (w_M_test_131 C hr hrc0 hrc1 hrc2 hrc3 hrc4 hrc5 r99 _ h)
              · refine nw_aload_n C dX12_test_121 rfl 1 rfl ?_
                refine nw_iconst (v := 1) C dX12_test_122 (by decide) ?_
                refine nw_aload_n C dX12_test_123 rfl 1 rfl ?_
                refine nw_get (v := .int (σ99.1 23)) C in_X12 0 ml_O rfl 23 (by decide) tw_1596 rfl mf_23 dX12_test_124 ?_
                refine nm_callVV (q0 := 0) (As := [.int 1, .int (σ99.1 23)]) (rest := []) C h (fun _ _ e => c_M_wrong e) tw_2050 kv_X12_wrong ml_O rfl ⟨by omega, by omega⟩ rfl dX12_test_127 rfl (Nat.le_of_ble_eq_true rfl) (fun r127 σ127 h => ?_)
                exact nm_vret C hr dX12_test_130 h
        · exact nm_vret C hr dX12_test_89 h
    · refine nw_aload_n C dX12_test_22 rfl 0 rfl ?_
      refine nw_iconst (v := 3) C dX12_test_23 (by decide) ?_
      refine nm_callVV (q0 := 0) (As := [.int 3]) (rest := []) C h (fun _ _ e => c_M_opens e) tw_2113 kv_X12_opens ml_O rfl ⟨by omega, by omega⟩ rfl dX12_test_24 rfl (Nat.le_of_ble_eq_true rfl) (fun r24 σ24 h => ?_)
      refine nw_aload_n C dX12_test_27 rfl 0 rfl ?_
      refine nm_callVV (q0 := 0) (As := []) (rest := []) C h (fun _ _ e => hrc5 e) tw_2130 kv_X12_test ml_O rfl ⟨by omega, by omega⟩ rfl dX12_test_28 rfl (Nat.le_of_ble_eq_true rfl) (fun r28 σ28 h => ?_)
      refine nw_aload_n C dX12_test_31 rfl 0 rfl ?_
      refine nw_dup C dX12_test_32 rfl ?_
      refine nw_get (v := .int (σ28.1 26)) C in_X12 0 ml_O rfl 26 (by decide) tw_1599 rfl mf_26 dX12_test_33 ?_
      refine nw_iconst (v := 1) C dX12_test_36 (by decide) ?_
      refine nw_isub C dX12_test_37 ?_
      refine nw_put (ty := .int) C in_X12 0 ml_O rfl 26 (by decide) tyX12 tyX12_ok nmX12 tw_1599 rfl rfl (by decide +kernel) rfl rfl (Nat.le_of_ble_eq_true rfl) dX12_test_38 ms_26 ?_
      refine nw_aload_n C dX12_test_41 rfl 0 rfl ?_
      refine nw_bipush (v := 10) C dX12_test_42 (by decide) ?_
      refine nw_iconst (v := 0) C dX12_test_44 (by decide) ?_
      refine nm_callVV (q0 := 0) (As := [.int 10, .int 0]) (rest := []) C h (fun _ _ e => c_M_emits e) tw_2098 kv_X12_emits ml_O rfl ⟨by omega, by omega⟩ rfl dX12_test_45 rfl (Nat.le_of_ble_eq_true rfl) (fun r45 σ45 h => ?_)
      exact nm_vret C hr dX12_test_48 h
  · exact nm_vret C hr dX12_test_7 h
theorem dX12_ands_0 : decode cX12_ands 0 = .ok (.aload_n 0, 1) := by decide +kernel
theorem dX12_ands_1 : decode cX12_ands 1 = .ok (.invokevirtual 469, 3) := by decide +kernel
theorem dX12_ands_4 : decode cX12_ands 4 = .ok (.aload_n 0, 1) := by decide +kernel
theorem dX12_ands_5 : decode cX12_ands 5 = .ok (.ldc_w 472, 3) := by decide +kernel
theorem dX12_ands_8 : decode cX12_ands 8 = .ok (.invokevirtual 413, 3) := by decide +kernel
theorem dX12_ands_11 : decode cX12_ands 11 = .ok (.ifCond .eq 17, 3) := by decide +kernel
theorem dX12_ands_14 : decode cX12_ands 14 = .ok (.aload_n 0, 1) := by decide +kernel
theorem dX12_ands_15 : decode cX12_ands 15 = .ok (.invokevirtual 469, 3) := by decide +kernel
theorem dX12_ands_18 : decode cX12_ands 18 = .ok (.aload_n 0, 1) := by decide +kernel
theorem dX12_ands_19 : decode cX12_ands 19 = .ok (.bipush 8, 2) := by decide +kernel
theorem dX12_ands_21 : decode cX12_ands 21 = .ok (.iconst 0, 1) := by decide +kernel
theorem dX12_ands_22 : decode cX12_ands 22 = .ok (.invokevirtual 438, 3) := by decide +kernel
theorem dX12_ands_25 : decode cX12_ands 25 = .ok (.goto (-21), 3) := by decide +kernel
theorem dX12_ands_28 : decode cX12_ands 28 = .ok (.return_, 1) := by decide +kernel
def L_M_ands_4 (rc : Nat → CS → Option (Int32 × CS))   : Nat → CS → Option (Int32 × CS)
  | 0, _ => none
  | n + 1, σ => bnd (f_M_eat 36 σ) (fun r8 σ8 => if r8 = 0 then some (0, σ8) else bnd (rc 5 σ8) (fun _ σ15 => bnd (f_M_emits 8 0 σ15) (fun _ σ22 => (L_M_ands_4 rc n) σ22)))
set_option maxHeartbeats 4000000 in
set_option maxRecDepth 100000 in
theorem w_M_ands_4 (C : Cx g p s m args meth c A 1 cX12_ands yX12_ands.cls) (hr : meth.sig.returnType = none) {d : Nat} {rc : Nat → CS → Option (Int32 × CS)} (hrc0 : ∀ {l : Launch} {g : EG} {am : Nat → Nat} {Rr : va_W} {σ σ' : CS} {r : Int32}, rc 0  σ = some (r, σ') → CmV l g yX12_sum (.code yX12_sum cX12_sum 2 none) (10 * d) (400 * d) am Rr σ [.ref (am 112)] r σ') (hrc1 : ∀ {l : Launch} {g : EG} {am : Nat → Nat} {Rr : va_W} {σ σ' : CS} {r : Int32}, rc 1  σ = some (r, σ') → CmV l g yX12_product (.code yX12_product cX12_product 2 none) (10 * d) (400 * d) am Rr σ [.ref (am 112)] r σ') (hrc2 : ∀ {l : Launch} {g : EG} {am : Nat → Nat} {Rr : va_W} {σ σ' : CS} {r : Int32}, rc 2  σ = some (r, σ') → CmV l g yX12_unit (.code yX12_unit cX12_unit 3 none) (10 * d) (400 * d) am Rr σ [.ref (am 112)] r σ') (hrc3 : ∀ {l : Launch} {g : EG} {am : Nat → Nat} {Rr : va_W} {σ σ' : CS} {r : Int32}, rc 3  σ = some (r, σ') → CmV l g yX12_ors (.code yX12_ors cX12_ors 1 none) (10 * d) (400 * d) am Rr σ [.ref (am 112)] r σ') (hrc4 : ∀ {l : Launch} {g : EG} {am : Nat → Nat} {Rr : va_W} {σ σ' : CS} {r : Int32}, rc 4  σ = some (r, σ') → CmV l g yX12_ands (.code yX12_ands cX12_ands 1 none) (10 * d) (400 * d) am Rr σ [.ref (am 112)] r σ') (hrc5 : ∀ {l : Launch} {g : EG} {am : Nat → Nat} {Rr : va_W} {σ σ' : CS} {r : Int32}, rc 5  σ = some (r, σ') → CmV l g yX12_test (.code yX12_test cX12_test 2 none) (10 * d) (400 * d) am Rr σ [.ref (am 112)] r σ')  {res : Int32 × CS}    : ∀ (n : Nat)  (σ : CS), L_M_ands_4 rc n σ = some res → NMV g p l e s m args below meth c A (10 * d + 10) (400 * d + 400) 1 am Rr res σ [(0, .ref (am 112))] 4 [] := by
  intro n
  induction n with
  | zero =>
    intro  σ h
    exact absurd (show (none : Option (Int32 × CS)) = some res from h) (by intro h9; cases h9)
  | succ n ih =>
    intro  σ h
    rw [L_M_ands_4] at h
    refine nw_aload_n C dX12_ands_4 rfl 0 rfl ?_
    refine nw_ldsw (i := 36) C (by decide) rfl rfl dX12_ands_5 ?_
    refine nm_callVI (q0 := 0) (As := [.ref (gK g 36)]) (rest := []) C h (fun _ _ e => c_M_eat 36 (by decide) e) tw_2071 kv_X12_eat ml_O rfl ⟨by omega, by omega⟩ rfl dX12_ands_8 rfl (Nat.le_of_ble_eq_true rfl) (fun r8 σ8 h => ?_)
    refine nw_if_eq (tgt := 28) C dX12_ands_11 (by decide) h (fun _ h => ?_) (fun _ h => ?_)
    · exact nm_vret C hr dX12_ands_28 h
    · refine nw_aload_n C dX12_ands_14 rfl 0 rfl ?_
      refine nm_callVV (q0 := 0) (As := []) (rest := []) C h (fun _ _ e => hrc5 e) tw_2130 kv_X12_test ml_O rfl ⟨by omega, by omega⟩ rfl dX12_ands_15 rfl (Nat.le_of_ble_eq_true rfl) (fun r15 σ15 h => ?_)
      refine nw_aload_n C dX12_ands_18 rfl 0 rfl ?_
      refine nw_bipush (v := 8) C dX12_ands_19 (by decide) ?_
      refine nw_iconst (v := 0) C dX12_ands_21 (by decide) ?_
      refine nm_callVV (q0 := 0) (As := [.int 8, .int 0]) (rest := []) C h (fun _ _ e => c_M_emits e) tw_2098 kv_X12_emits ml_O rfl ⟨by omega, by omega⟩ rfl dX12_ands_22 rfl (Nat.le_of_ble_eq_true rfl) (fun r22 σ22 h => ?_)
      refine nw_goto (tgt := 4) C dX12_ands_25 (by decide) ?_
      exact nw_lv (lv' := [(0, .ref (am 112))]) [0] rfl (ih  _ h)
def f_M_ands (rc : Nat → CS → Option (Int32 × CS))  (σ : CS) : Option (Int32 × CS) := bnd (rc 5 σ) (fun _ σ1 => L_M_ands_4 rc FU σ1)
set_option maxHeartbeats 4000000 in
set_option maxRecDepth 100000 in
theorem c_M_ands {l : Launch} {g : EG} {am : Nat → Nat} {Rr : va_W} {σ σ' : CS} {r : Int32}  {d : Nat} {rc : Nat → CS → Option (Int32 × CS)} (hrc0 : ∀ {l : Launch} {g : EG} {am : Nat → Nat} {Rr : va_W} {σ σ' : CS} {r : Int32}, rc 0  σ = some (r, σ') → CmV l g yX12_sum (.code yX12_sum cX12_sum 2 none) (10 * d) (400 * d) am Rr σ [.ref (am 112)] r σ') (hrc1 : ∀ {l : Launch} {g : EG} {am : Nat → Nat} {Rr : va_W} {σ σ' : CS} {r : Int32}, rc 1  σ = some (r, σ') → CmV l g yX12_product (.code yX12_product cX12_product 2 none) (10 * d) (400 * d) am Rr σ [.ref (am 112)] r σ') (hrc2 : ∀ {l : Launch} {g : EG} {am : Nat → Nat} {Rr : va_W} {σ σ' : CS} {r : Int32}, rc 2  σ = some (r, σ') → CmV l g yX12_unit (.code yX12_unit cX12_unit 3 none) (10 * d) (400 * d) am Rr σ [.ref (am 112)] r σ') (hrc3 : ∀ {l : Launch} {g : EG} {am : Nat → Nat} {Rr : va_W} {σ σ' : CS} {r : Int32}, rc 3  σ = some (r, σ') → CmV l g yX12_ors (.code yX12_ors cX12_ors 1 none) (10 * d) (400 * d) am Rr σ [.ref (am 112)] r σ') (hrc4 : ∀ {l : Launch} {g : EG} {am : Nat → Nat} {Rr : va_W} {σ σ' : CS} {r : Int32}, rc 4  σ = some (r, σ') → CmV l g yX12_ands (.code yX12_ands cX12_ands 1 none) (10 * d) (400 * d) am Rr σ [.ref (am 112)] r σ') (hrc5 : ∀ {l : Launch} {g : EG} {am : Nat → Nat} {Rr : va_W} {σ σ' : CS} {r : Int32}, rc 5  σ = some (r, σ') → CmV l g yX12_test (.code yX12_test cX12_test 2 none) (10 * d) (400 * d) am Rr σ [.ref (am 112)] r σ')  (h : f_M_ands rc σ = some (r, σ')) : CmV l g yX12_ands (.code yX12_ands cX12_ands 1 none) (10 * d + 10) (400 * d + 400) am Rr σ [.ref (am 112)] r σ' := by
  refine Ct.of rfl (by decide) (Nat.le_of_ble_eq_true rfl) ?_
  intro p e s m args below meth c A C hr
  show NMV g p l e s m args below meth c A (10 * d + 10) (400 * d + 400) 1 am Rr (r, σ') σ [(0, .ref (am 112))] 0 []
  unfold f_M_ands at h
  refine nw_aload_n C dX12_ands_0 rfl 0 rfl ?_
  refine nm_callVV (q0 := 0) (As := []) (rest := []) C h (fun _ _ e => hrc5 e) tw_2130 kv_X12_test ml_O rfl ⟨by omega, by omega⟩ rfl dX12_ands_1 rfl (Nat.le_of_ble_eq_true rfl) (fun r1 σ1 h => ?_)
  exact nw_lv (lv' := [(0, .ref (am 112))]) [0] rfl (w_M_ands_4 C hr hrc0 hrc1 hrc2 hrc3 hrc4 hrc5 FU _ h)
theorem dX12_ors_0 : decode cX12_ors 0 = .ok (.aload_n 0, 1) := by decide +kernel
theorem dX12_ors_1 : decode cX12_ors 1 = .ok (.invokevirtual 464, 3) := by decide +kernel
theorem dX12_ors_4 : decode cX12_ors 4 = .ok (.aload_n 0, 1) := by decide +kernel
theorem dX12_ors_5 : decode cX12_ors 5 = .ok (.ldc_w 467, 3) := by decide +kernel
theorem dX12_ors_8 : decode cX12_ors 8 = .ok (.invokevirtual 413, 3) := by decide +kernel
theorem dX12_ors_11 : decode cX12_ors 11 = .ok (.ifCond .eq 17, 3) := by decide +kernel
theorem dX12_ors_14 : decode cX12_ors 14 = .ok (.aload_n 0, 1) := by decide +kernel
theorem dX12_ors_15 : decode cX12_ors 15 = .ok (.invokevirtual 464, 3) := by decide +kernel
theorem dX12_ors_18 : decode cX12_ors 18 = .ok (.aload_n 0, 1) := by decide +kernel
theorem dX12_ors_19 : decode cX12_ors 19 = .ok (.bipush 9, 2) := by decide +kernel
theorem dX12_ors_21 : decode cX12_ors 21 = .ok (.iconst 0, 1) := by decide +kernel
theorem dX12_ors_22 : decode cX12_ors 22 = .ok (.invokevirtual 438, 3) := by decide +kernel
theorem dX12_ors_25 : decode cX12_ors 25 = .ok (.goto (-21), 3) := by decide +kernel
theorem dX12_ors_28 : decode cX12_ors 28 = .ok (.return_, 1) := by decide +kernel
def L_M_ors_4 (rc : Nat → CS → Option (Int32 × CS))   : Nat → CS → Option (Int32 × CS)
  | 0, _ => none
  | n + 1, σ => bnd (f_M_eat 37 σ) (fun r8 σ8 => if r8 = 0 then some (0, σ8) else bnd (rc 4 σ8) (fun _ σ15 => bnd (f_M_emits 9 0 σ15) (fun _ σ22 => (L_M_ors_4 rc n) σ22)))
set_option maxHeartbeats 4000000 in
set_option maxRecDepth 100000 in
theorem w_M_ors_4 (C : Cx g p s m args meth c A 1 cX12_ors yX12_ors.cls) (hr : meth.sig.returnType = none) {d : Nat} {rc : Nat → CS → Option (Int32 × CS)} (hrc0 : ∀ {l : Launch} {g : EG} {am : Nat → Nat} {Rr : va_W} {σ σ' : CS} {r : Int32}, rc 0  σ = some (r, σ') → CmV l g yX12_sum (.code yX12_sum cX12_sum 2 none) (10 * d) (400 * d) am Rr σ [.ref (am 112)] r σ') (hrc1 : ∀ {l : Launch} {g : EG} {am : Nat → Nat} {Rr : va_W} {σ σ' : CS} {r : Int32}, rc 1  σ = some (r, σ') → CmV l g yX12_product (.code yX12_product cX12_product 2 none) (10 * d) (400 * d) am Rr σ [.ref (am 112)] r σ') (hrc2 : ∀ {l : Launch} {g : EG} {am : Nat → Nat} {Rr : va_W} {σ σ' : CS} {r : Int32}, rc 2  σ = some (r, σ') → CmV l g yX12_unit (.code yX12_unit cX12_unit 3 none) (10 * d) (400 * d) am Rr σ [.ref (am 112)] r σ') (hrc3 : ∀ {l : Launch} {g : EG} {am : Nat → Nat} {Rr : va_W} {σ σ' : CS} {r : Int32}, rc 3  σ = some (r, σ') → CmV l g yX12_ors (.code yX12_ors cX12_ors 1 none) (10 * d) (400 * d) am Rr σ [.ref (am 112)] r σ') (hrc4 : ∀ {l : Launch} {g : EG} {am : Nat → Nat} {Rr : va_W} {σ σ' : CS} {r : Int32}, rc 4  σ = some (r, σ') → CmV l g yX12_ands (.code yX12_ands cX12_ands 1 none) (10 * d) (400 * d) am Rr σ [.ref (am 112)] r σ') (hrc5 : ∀ {l : Launch} {g : EG} {am : Nat → Nat} {Rr : va_W} {σ σ' : CS} {r : Int32}, rc 5  σ = some (r, σ') → CmV l g yX12_test (.code yX12_test cX12_test 2 none) (10 * d) (400 * d) am Rr σ [.ref (am 112)] r σ')  {res : Int32 × CS}    : ∀ (n : Nat)  (σ : CS), L_M_ors_4 rc n σ = some res → NMV g p l e s m args below meth c A (10 * d + 10) (400 * d + 400) 1 am Rr res σ [(0, .ref (am 112))] 4 [] := by
  intro n
  induction n with
  | zero =>
    intro  σ h
    exact absurd (show (none : Option (Int32 × CS)) = some res from h) (by intro h9; cases h9)
  | succ n ih =>
    intro  σ h
    rw [L_M_ors_4] at h
    refine nw_aload_n C dX12_ors_4 rfl 0 rfl ?_
    refine nw_ldsw (i := 37) C (by decide) rfl rfl dX12_ors_5 ?_
    refine nm_callVI (q0 := 0) (As := [.ref (gK g 37)]) (rest := []) C h (fun _ _ e => c_M_eat 37 (by decide) e) tw_2071 kv_X12_eat ml_O rfl ⟨by omega, by omega⟩ rfl dX12_ors_8 rfl (Nat.le_of_ble_eq_true rfl) (fun r8 σ8 h => ?_)
    refine nw_if_eq (tgt := 28) C dX12_ors_11 (by decide) h (fun _ h => ?_) (fun _ h => ?_)
    · exact nm_vret C hr dX12_ors_28 h
    · refine nw_aload_n C dX12_ors_14 rfl 0 rfl ?_
      refine nm_callVV (q0 := 0) (As := []) (rest := []) C h (fun _ _ e => hrc4 e) tw_2126 kv_X12_ands ml_O rfl ⟨by omega, by omega⟩ rfl dX12_ors_15 rfl (Nat.le_of_ble_eq_true rfl) (fun r15 σ15 h => ?_)
      refine nw_aload_n C dX12_ors_18 rfl 0 rfl ?_
      refine nw_bipush (v := 9) C dX12_ors_19 (by decide) ?_
      refine nw_iconst (v := 0) C dX12_ors_21 (by decide) ?_
      refine nm_callVV (q0 := 0) (As := [.int 9, .int 0]) (rest := []) C h (fun _ _ e => c_M_emits e) tw_2098 kv_X12_emits ml_O rfl ⟨by omega, by omega⟩ rfl dX12_ors_22 rfl (Nat.le_of_ble_eq_true rfl) (fun r22 σ22 h => ?_)
      refine nw_goto (tgt := 4) C dX12_ors_25 (by decide) ?_
      exact nw_lv (lv' := [(0, .ref (am 112))]) [0] rfl (ih  _ h)
def f_M_ors (rc : Nat → CS → Option (Int32 × CS))  (σ : CS) : Option (Int32 × CS) := bnd (rc 4 σ) (fun _ σ1 => L_M_ors_4 rc FU σ1)
set_option maxHeartbeats 4000000 in
set_option maxRecDepth 100000 in
theorem c_M_ors {l : Launch} {g : EG} {am : Nat → Nat} {Rr : va_W} {σ σ' : CS} {r : Int32}  {d : Nat} {rc : Nat → CS → Option (Int32 × CS)} (hrc0 : ∀ {l : Launch} {g : EG} {am : Nat → Nat} {Rr : va_W} {σ σ' : CS} {r : Int32}, rc 0  σ = some (r, σ') → CmV l g yX12_sum (.code yX12_sum cX12_sum 2 none) (10 * d) (400 * d) am Rr σ [.ref (am 112)] r σ') (hrc1 : ∀ {l : Launch} {g : EG} {am : Nat → Nat} {Rr : va_W} {σ σ' : CS} {r : Int32}, rc 1  σ = some (r, σ') → CmV l g yX12_product (.code yX12_product cX12_product 2 none) (10 * d) (400 * d) am Rr σ [.ref (am 112)] r σ') (hrc2 : ∀ {l : Launch} {g : EG} {am : Nat → Nat} {Rr : va_W} {σ σ' : CS} {r : Int32}, rc 2  σ = some (r, σ') → CmV l g yX12_unit (.code yX12_unit cX12_unit 3 none) (10 * d) (400 * d) am Rr σ [.ref (am 112)] r σ') (hrc3 : ∀ {l : Launch} {g : EG} {am : Nat → Nat} {Rr : va_W} {σ σ' : CS} {r : Int32}, rc 3  σ = some (r, σ') → CmV l g yX12_ors (.code yX12_ors cX12_ors 1 none) (10 * d) (400 * d) am Rr σ [.ref (am 112)] r σ') (hrc4 : ∀ {l : Launch} {g : EG} {am : Nat → Nat} {Rr : va_W} {σ σ' : CS} {r : Int32}, rc 4  σ = some (r, σ') → CmV l g yX12_ands (.code yX12_ands cX12_ands 1 none) (10 * d) (400 * d) am Rr σ [.ref (am 112)] r σ') (hrc5 : ∀ {l : Launch} {g : EG} {am : Nat → Nat} {Rr : va_W} {σ σ' : CS} {r : Int32}, rc 5  σ = some (r, σ') → CmV l g yX12_test (.code yX12_test cX12_test 2 none) (10 * d) (400 * d) am Rr σ [.ref (am 112)] r σ')  (h : f_M_ors rc σ = some (r, σ')) : CmV l g yX12_ors (.code yX12_ors cX12_ors 1 none) (10 * d + 10) (400 * d + 400) am Rr σ [.ref (am 112)] r σ' := by
  refine Ct.of rfl (by decide) (Nat.le_of_ble_eq_true rfl) ?_
  intro p e s m args below meth c A C hr
  show NMV g p l e s m args below meth c A (10 * d + 10) (400 * d + 400) 1 am Rr (r, σ') σ [(0, .ref (am 112))] 0 []
  unfold f_M_ors at h
  refine nw_aload_n C dX12_ors_0 rfl 0 rfl ?_
  refine nm_callVV (q0 := 0) (As := []) (rest := []) C h (fun _ _ e => hrc4 e) tw_2126 kv_X12_ands ml_O rfl ⟨by omega, by omega⟩ rfl dX12_ors_1 rfl (Nat.le_of_ble_eq_true rfl) (fun r1 σ1 h => ?_)
  exact nw_lv (lv' := [(0, .ref (am 112))]) [0] rfl (w_M_ors_4 C hr hrc0 hrc1 hrc2 hrc3 hrc4 hrc5 FU _ h)
def g_MP : Nat → Nat → CS → Option (Int32 × CS)
  | 0, _, _ => none
  | d + 1, tag, σ => if tag = 0 then f_M_sum (g_MP d)  σ else if tag = 1 then f_M_product (g_MP d)  σ else if tag = 2 then f_M_unit (g_MP d)  σ else if tag = 3 then f_M_ors (g_MP d)  σ else if tag = 4 then f_M_ands (g_MP d)  σ else if tag = 5 then f_M_test (g_MP d)  σ else none
set_option maxHeartbeats 4000000 in
theorem cg_MP (d : Nat) : (∀ {l : Launch} {g : EG} {am : Nat → Nat} {Rr : va_W} {σ σ' : CS} {r : Int32}, g_MP d 0  σ = some (r, σ') → CmV l g yX12_sum (.code yX12_sum cX12_sum 2 none) (10 * d) (400 * d) am Rr σ [.ref (am 112)] r σ') ∧ (∀ {l : Launch} {g : EG} {am : Nat → Nat} {Rr : va_W} {σ σ' : CS} {r : Int32}, g_MP d 1  σ = some (r, σ') → CmV l g yX12_product (.code yX12_product cX12_product 2 none) (10 * d) (400 * d) am Rr σ [.ref (am 112)] r σ') ∧ (∀ {l : Launch} {g : EG} {am : Nat → Nat} {Rr : va_W} {σ σ' : CS} {r : Int32}, g_MP d 2  σ = some (r, σ') → CmV l g yX12_unit (.code yX12_unit cX12_unit 3 none) (10 * d) (400 * d) am Rr σ [.ref (am 112)] r σ') ∧ (∀ {l : Launch} {g : EG} {am : Nat → Nat} {Rr : va_W} {σ σ' : CS} {r : Int32}, g_MP d 3  σ = some (r, σ') → CmV l g yX12_ors (.code yX12_ors cX12_ors 1 none) (10 * d) (400 * d) am Rr σ [.ref (am 112)] r σ') ∧ (∀ {l : Launch} {g : EG} {am : Nat → Nat} {Rr : va_W} {σ σ' : CS} {r : Int32}, g_MP d 4  σ = some (r, σ') → CmV l g yX12_ands (.code yX12_ands cX12_ands 1 none) (10 * d) (400 * d) am Rr σ [.ref (am 112)] r σ') ∧ (∀ {l : Launch} {g : EG} {am : Nat → Nat} {Rr : va_W} {σ σ' : CS} {r : Int32}, g_MP d 5  σ = some (r, σ') → CmV l g yX12_test (.code yX12_test cX12_test 2 none) (10 * d) (400 * d) am Rr σ [.ref (am 112)] r σ') := by
  induction d with
  | zero => exact ⟨fun h => absurd (show (none : Option (Int32 × CS)) = some _ from h) (by intro h9; cases h9), fun h => absurd (show (none : Option (Int32 × CS)) = some _ from h) (by intro h9; cases h9), fun h => absurd (show (none : Option (Int32 × CS)) = some _ from h) (by intro h9; cases h9), fun h => absurd (show (none : Option (Int32 × CS)) = some _ from h) (by intro h9; cases h9), fun h => absurd (show (none : Option (Int32 × CS)) = some _ from h) (by intro h9; cases h9), fun h => absurd (show (none : Option (Int32 × CS)) = some _ from h) (by intro h9; cases h9)⟩
  | succ d ih =>
    obtain ⟨i0, i1, i2, i3, i4, i5⟩ := ih
    exact ⟨by intro l g am Rr σ σ' r  h; exact c_M_sum @i0 @i1 @i2 @i3 @i4 @i5 h, by intro l g am Rr σ σ' r  h; exact c_M_product @i0 @i1 @i2 @i3 @i4 @i5 h, by intro l g am Rr σ σ' r  h; exact c_M_unit @i0 @i1 @i2 @i3 @i4 @i5 h, by intro l g am Rr σ σ' r  h; exact c_M_ors @i0 @i1 @i2 @i3 @i4 @i5 h, by intro l g am Rr σ σ' r  h; exact c_M_ands @i0 @i1 @i2 @i3 @i4 @i5 h, by intro l g am Rr σ σ' r  h; exact c_M_test @i0 @i1 @i2 @i3 @i4 @i5 h⟩
theorem cg_M_sum (d : Nat) : ∀ {l : Launch} {g : EG} {am : Nat → Nat} {Rr : va_W} {σ σ' : CS} {r : Int32}, g_MP d 0  σ = some (r, σ') → CmV l g yX12_sum (.code yX12_sum cX12_sum 2 none) (10 * d) (400 * d) am Rr σ [.ref (am 112)] r σ' := fun h => (cg_MP d).1 h
theorem cg_M_product (d : Nat) : ∀ {l : Launch} {g : EG} {am : Nat → Nat} {Rr : va_W} {σ σ' : CS} {r : Int32}, g_MP d 1  σ = some (r, σ') → CmV l g yX12_product (.code yX12_product cX12_product 2 none) (10 * d) (400 * d) am Rr σ [.ref (am 112)] r σ' := fun h => (cg_MP d).2.1 h
theorem cg_M_unit (d : Nat) : ∀ {l : Launch} {g : EG} {am : Nat → Nat} {Rr : va_W} {σ σ' : CS} {r : Int32}, g_MP d 2  σ = some (r, σ') → CmV l g yX12_unit (.code yX12_unit cX12_unit 3 none) (10 * d) (400 * d) am Rr σ [.ref (am 112)] r σ' := fun h => (cg_MP d).2.2.1 h
theorem cg_M_ors (d : Nat) : ∀ {l : Launch} {g : EG} {am : Nat → Nat} {Rr : va_W} {σ σ' : CS} {r : Int32}, g_MP d 3  σ = some (r, σ') → CmV l g yX12_ors (.code yX12_ors cX12_ors 1 none) (10 * d) (400 * d) am Rr σ [.ref (am 112)] r σ' := fun h => (cg_MP d).2.2.2.1 h
theorem cg_M_ands (d : Nat) : ∀ {l : Launch} {g : EG} {am : Nat → Nat} {Rr : va_W} {σ σ' : CS} {r : Int32}, g_MP d 4  σ = some (r, σ') → CmV l g yX12_ands (.code yX12_ands cX12_ands 1 none) (10 * d) (400 * d) am Rr σ [.ref (am 112)] r σ' := fun h => (cg_MP d).2.2.2.2.1 h
theorem cg_M_test (d : Nat) : ∀ {l : Launch} {g : EG} {am : Nat → Nat} {Rr : va_W} {σ σ' : CS} {r : Int32}, g_MP d 5  σ = some (r, σ') → CmV l g yX12_test (.code yX12_test cX12_test 2 none) (10 * d) (400 * d) am Rr σ [.ref (am 112)] r σ' := fun h => (cg_MP d).2.2.2.2.2 h
theorem dX12_clause_0 : decode cX12_clause 0 = .ok (.aload_n 0, 1) := by decide +kernel
theorem dX12_clause_1 : decode cX12_clause 1 = .ok (.invokevirtual 479, 3) := by decide +kernel
theorem dX12_clause_4 : decode cX12_clause 4 = .ok (.istore_n 2, 1) := by decide +kernel
theorem dX12_clause_5 : decode cX12_clause 5 = .ok (.iload_n 2, 1) := by decide +kernel
theorem dX12_clause_6 : decode cX12_clause 6 = .ok (.ifCond .ge 13, 3) := by decide +kernel
theorem dX12_clause_9 : decode cX12_clause 9 = .ok (.aload_n 0, 1) := by decide +kernel
theorem dX12_clause_10 : decode cX12_clause 10 = .ok (.iconst 1, 1) := by decide +kernel
theorem dX12_clause_11 : decode cX12_clause 11 = .ok (.aload_n 0, 1) := by decide +kernel
theorem dX12_clause_12 : decode cX12_clause 12 = .ok (.getfield 343, 3) := by decide +kernel
theorem dX12_clause_15 : decode cX12_clause 15 = .ok (.invokevirtual 416, 3) := by decide +kernel
theorem dX12_clause_18 : decode cX12_clause 18 = .ok (.return_, 1) := by decide +kernel
theorem dX12_clause_19 : decode cX12_clause 19 = .ok (.aload_n 0, 1) := by decide +kernel
theorem dX12_clause_20 : decode cX12_clause 20 = .ok (.dup, 1) := by decide +kernel
theorem dX12_clause_21 : decode cX12_clause 21 = .ok (.getfield 343, 3) := by decide +kernel
theorem dX12_clause_24 : decode cX12_clause 24 = .ok (.iload_n 2, 1) := by decide +kernel
theorem dX12_clause_25 : decode cX12_clause 25 = .ok (.invokestatic 406, 3) := by decide +kernel
theorem dX12_clause_28 : decode cX12_clause 28 = .ok (.invokevirtual 355, 3) := by decide +kernel
theorem dX12_clause_31 : decode cX12_clause 31 = .ok (.iadd, 1) := by decide +kernel
theorem dX12_clause_32 : decode cX12_clause 32 = .ok (.putfield 343, 3) := by decide +kernel
theorem dX12_clause_35 : decode cX12_clause 35 = .ok (.aload_n 0, 1) := by decide +kernel
theorem dX12_clause_36 : decode cX12_clause 36 = .ok (.getfield 54, 3) := by decide +kernel
theorem dX12_clause_39 : decode cX12_clause 39 = .ok (.iload_n 1, 1) := by decide +kernel
theorem dX12_clause_40 : decode cX12_clause 40 = .ok (.iload_n 2, 1) := by decide +kernel
theorem dX12_clause_41 : decode cX12_clause 41 = .ok (.iastore, 1) := by decide +kernel
theorem dX12_clause_42 : decode cX12_clause 42 = .ok (.aload_n 0, 1) := by decide +kernel
theorem dX12_clause_43 : decode cX12_clause 43 = .ok (.getfield 60, 3) := by decide +kernel
theorem dX12_clause_46 : decode cX12_clause 46 = .ok (.iload_n 1, 1) := by decide +kernel
theorem dX12_clause_47 : decode cX12_clause 47 = .ok (.iconst (-1), 1) := by decide +kernel
theorem dX12_clause_48 : decode cX12_clause 48 = .ok (.iastore, 1) := by decide +kernel
theorem dX12_clause_49 : decode cX12_clause 49 = .ok (.iload_n 2, 1) := by decide +kernel
theorem dX12_clause_50 : decode cX12_clause 50 = .ok (.iconst 3, 1) := by decide +kernel
theorem dX12_clause_51 : decode cX12_clause 51 = .ok (.if_icmp .gt 13, 3) := by decide +kernel
theorem dX12_clause_54 : decode cX12_clause 54 = .ok (.aload_n 0, 1) := by decide +kernel
theorem dX12_clause_55 : decode cX12_clause 55 = .ok (.getfield 57, 3) := by decide +kernel
theorem dX12_clause_58 : decode cX12_clause 58 = .ok (.iload_n 1, 1) := by decide +kernel
theorem dX12_clause_59 : decode cX12_clause 59 = .ok (.aload_n 0, 1) := by decide +kernel
theorem dX12_clause_60 : decode cX12_clause 60 = .ok (.invokevirtual 482, 3) := by decide +kernel
theorem dX12_clause_63 : decode cX12_clause 63 = .ok (.iastore, 1) := by decide +kernel
theorem dX12_clause_64 : decode cX12_clause 64 = .ok (.iload_n 2, 1) := by decide +kernel
theorem dX12_clause_65 : decode cX12_clause 65 = .ok (.iconst 3, 1) := by decide +kernel
theorem dX12_clause_66 : decode cX12_clause 66 = .ok (.if_icmp .ne 33, 3) := by decide +kernel
theorem dX12_clause_69 : decode cX12_clause 69 = .ok (.aload_n 0, 1) := by decide +kernel
theorem dX12_clause_70 : decode cX12_clause 70 = .ok (.bipush 61, 2) := by decide +kernel
theorem dX12_clause_72 : decode cX12_clause 72 = .ok (.invokevirtual 431, 3) := by decide +kernel
theorem dX12_clause_75 : decode cX12_clause 75 = .ok (.aload_n 0, 1) := by decide +kernel
theorem dX12_clause_76 : decode cX12_clause 76 = .ok (.getfield 60, 3) := by decide +kernel
theorem dX12_clause_79 : decode cX12_clause 79 = .ok (.iload_n 1, 1) := by decide +kernel
theorem dX12_clause_80 : decode cX12_clause 80 = .ok (.aload_n 0, 1) := by decide +kernel
theorem dX12_clause_81 : decode cX12_clause 81 = .ok (.getfield 425, 3) := by decide +kernel
theorem dX12_clause_84 : decode cX12_clause 84 = .ok (.iastore, 1) := by decide +kernel
theorem dX12_clause_85 : decode cX12_clause 85 = .ok (.aload_n 0, 1) := by decide +kernel
theorem dX12_clause_86 : decode cX12_clause 86 = .ok (.invokevirtual 458, 3) := by decide +kernel
theorem dX12_clause_89 : decode cX12_clause 89 = .ok (.aload_n 0, 1) := by decide +kernel
theorem dX12_clause_90 : decode cX12_clause 90 = .ok (.bipush 14, 2) := by decide +kernel
theorem dX12_clause_92 : decode cX12_clause 92 = .ok (.iconst 0, 1) := by decide +kernel
theorem dX12_clause_93 : decode cX12_clause 93 = .ok (.invokevirtual 438, 3) := by decide +kernel
theorem dX12_clause_96 : decode cX12_clause 96 = .ok (.goto 194, 3) := by decide +kernel
theorem dX12_clause_99 : decode cX12_clause 99 = .ok (.iload_n 2, 1) := by decide +kernel
theorem dX12_clause_100 : decode cX12_clause 100 = .ok (.iconst 1, 1) := by decide +kernel
theorem dX12_clause_101 : decode cX12_clause 101 = .ok (.if_icmp .gt 37, 3) := by decide +kernel
theorem dX12_clause_104 : decode cX12_clause 104 = .ok (.aload_n 0, 1) := by decide +kernel
theorem dX12_clause_105 : decode cX12_clause 105 = .ok (.ldc_w 485, 3) := by decide +kernel
theorem dX12_clause_108 : decode cX12_clause 108 = .ok (.invokevirtual 413, 3) := by decide +kernel
theorem dX12_clause_111 : decode cX12_clause 111 = .ok (.ifCond .eq 27, 3) := by decide +kernel
theorem dX12_clause_114 : decode cX12_clause 114 = .ok (.aload_n 0, 1) := by decide +kernel
theorem dX12_clause_115 : decode cX12_clause 115 = .ok (.getfield 60, 3) := by decide +kernel
theorem dX12_clause_118 : decode cX12_clause 118 = .ok (.iload_n 1, 1) := by decide +kernel
theorem dX12_clause_119 : decode cX12_clause 119 = .ok (.aload_n 0, 1) := by decide +kernel
theorem dX12_clause_120 : decode cX12_clause 120 = .ok (.getfield 425, 3) := by decide +kernel
theorem dX12_clause_123 : decode cX12_clause 123 = .ok (.iastore, 1) := by decide +kernel
theorem dX12_clause_124 : decode cX12_clause 124 = .ok (.aload_n 0, 1) := by decide +kernel
theorem dX12_clause_125 : decode cX12_clause 125 = .ok (.invokevirtual 476, 3) := by decide +kernel
theorem dX12_clause_128 : decode cX12_clause 128 = .ok (.aload_n 0, 1) := by decide +kernel
theorem dX12_clause_129 : decode cX12_clause 129 = .ok (.bipush 14, 2) := by decide +kernel
theorem dX12_clause_131 : decode cX12_clause 131 = .ok (.iconst 0, 1) := by decide +kernel
theorem dX12_clause_132 : decode cX12_clause 132 = .ok (.invokevirtual 438, 3) := by decide +kernel
theorem dX12_clause_135 : decode cX12_clause 135 = .ok (.goto 155, 3) := by decide +kernel
theorem dX12_clause_138 : decode cX12_clause 138 = .ok (.iload_n 2, 1) := by decide +kernel
theorem dX12_clause_139 : decode cX12_clause 139 = .ok (.iconst 4, 1) := by decide +kernel
theorem dX12_clause_140 : decode cX12_clause 140 = .ok (.if_icmp .ne 23, 3) := by decide +kernel
theorem dX12_clause_143 : decode cX12_clause 143 = .ok (.aload_n 0, 1) := by decide +kernel
theorem dX12_clause_144 : decode cX12_clause 144 = .ok (.getfield 57, 3) := by decide +kernel
theorem dX12_clause_147 : decode cX12_clause 147 = .ok (.iload_n 1, 1) := by decide +kernel
theorem dX12_clause_148 : decode cX12_clause 148 = .ok (.aload_n 0, 1) := by decide +kernel
theorem dX12_clause_149 : decode cX12_clause 149 = .ok (.iconst 0, 1) := by decide +kernel
theorem dX12_clause_150 : decode cX12_clause 150 = .ok (.aload_n 0, 1) := by decide +kernel
theorem dX12_clause_151 : decode cX12_clause 151 = .ok (.getfield 422, 3) := by decide +kernel
theorem dX12_clause_154 : decode cX12_clause 154 = .ok (.iconst 1, 1) := by decide +kernel
theorem dX12_clause_155 : decode cX12_clause 155 = .ok (.isub, 1) := by decide +kernel
theorem dX12_clause_156 : decode cX12_clause 156 = .ok (.invokevirtual 444, 3) := by decide +kernel
theorem dX12_clause_159 : decode cX12_clause 159 = .ok (.iastore, 1) := by decide +kernel
theorem dX12_clause_160 : decode cX12_clause 160 = .ok (.goto 130, 3) := by decide +kernel
theorem dX12_clause_163 : decode cX12_clause 163 = .ok (.iload_n 2, 1) := by decide +kernel
theorem dX12_clause_164 : decode cX12_clause 164 = .ok (.iconst 5, 1) := by decide +kernel
theorem dX12_clause_165 : decode cX12_clause 165 = .ok (.if_icmp .ne 55, 3) := by decide +kernel
theorem dX12_clause_168 : decode cX12_clause 168 = .ok (.aload_n 0, 1) := by decide +kernel
theorem dX12_clause_169 : decode cX12_clause 169 = .ok (.getfield 57, 3) := by decide +kernel
theorem dX12_clause_172 : decode cX12_clause 172 = .ok (.iload_n 1, 1) := by decide +kernel
theorem dX12_clause_173 : decode cX12_clause 173 = .ok (.aload_n 0, 1) := by decide +kernel
theorem dX12_clause_174 : decode cX12_clause 174 = .ok (.ldc_w 487, 3) := by decide +kernel
theorem dX12_clause_177 : decode cX12_clause 177 = .ok (.invokevirtual 413, 3) := by decide +kernel
theorem dX12_clause_180 : decode cX12_clause 180 = .ok (.ifCond .eq 7, 3) := by decide +kernel
theorem dX12_clause_183 : decode cX12_clause 183 = .ok (.iconst 1, 1) := by decide +kernel
theorem dX12_clause_184 : decode cX12_clause 184 = .ok (.goto 4, 3) := by decide +kernel
theorem dX12_clause_187 : decode cX12_clause 187 = .ok (.iconst 0, 1) := by decide +kernel
theorem dX12_clause_188 : decode cX12_clause 188 = .ok (.iastore, 1) := by decide +kernel
theorem dX12_clause_189 : decode cX12_clause 189 = .ok (.aload_n 0, 1) := by decide +kernel
theorem dX12_clause_190 : decode cX12_clause 190 = .ok (.getfield 57, 3) := by decide +kernel
theorem dX12_clause_193 : decode cX12_clause 193 = .ok (.iload_n 1, 1) := by decide +kernel
theorem dX12_clause_194 : decode cX12_clause 194 = .ok (.iaload, 1) := by decide +kernel
theorem dX12_clause_195 : decode cX12_clause 195 = .ok (.ifCond .ne 95, 3) := by decide +kernel
theorem dX12_clause_198 : decode cX12_clause 198 = .ok (.aload_n 0, 1) := by decide +kernel
theorem dX12_clause_199 : decode cX12_clause 199 = .ok (.ldc_w 489, 3) := by decide +kernel
theorem dX12_clause_202 : decode cX12_clause 202 = .ok (.invokevirtual 413, 3) := by decide +kernel
theorem dX12_clause_205 : decode cX12_clause 205 = .ok (.ifCond .ne 85, 3) := by decide +kernel
theorem dX12_clause_208 : decode cX12_clause 208 = .ok (.aload_n 0, 1) := by decide +kernel
theorem dX12_clause_209 : decode cX12_clause 209 = .ok (.iconst 1, 1) := by decide +kernel
theorem dX12_clause_210 : decode cX12_clause 210 = .ok (.aload_n 0, 1) := by decide +kernel
theorem dX12_clause_211 : decode cX12_clause 211 = .ok (.getfield 343, 3) := by decide +kernel
theorem dX12_clause_214 : decode cX12_clause 214 = .ok (.invokevirtual 416, 3) := by decide +kernel
theorem dX12_clause_217 : decode cX12_clause 217 = .ok (.goto 73, 3) := by decide +kernel
theorem dX12_clause_220 : decode cX12_clause 220 = .ok (.iload_n 2, 1) := by decide +kernel
theorem dX12_clause_221 : decode cX12_clause 221 = .ok (.bipush 6, 2) := by decide +kernel
theorem dX12_clause_223 : decode cX12_clause 223 = .ok (.if_icmp .ne 48, 3) := by decide +kernel
theorem dX12_clause_226 : decode cX12_clause 226 = .ok (.aload_n 0, 1) := by decide +kernel
theorem dX12_clause_227 : decode cX12_clause 227 = .ok (.getfield 57, 3) := by decide +kernel
theorem dX12_clause_230 : decode cX12_clause 230 = .ok (.iload_n 1, 1) := by decide +kernel
theorem dX12_clause_231 : decode cX12_clause 231 = .ok (.aload_n 0, 1) := by decide +kernel
theorem dX12_clause_232 : decode cX12_clause 232 = .ok (.iconst 1, 1) := by decide +kernel
theorem dX12_clause_233 : decode cX12_clause 233 = .ok (.sipush 4000, 3) := by decide +kernel
theorem dX12_clause_236 : decode cX12_clause 236 = .ok (.invokevirtual 444, 3) := by decide +kernel
theorem dX12_clause_239 : decode cX12_clause 239 = .ok (.iastore, 1) := by decide +kernel
theorem dX12_clause_240 : decode cX12_clause 240 = .ok (.aload_n 0, 1) := by decide +kernel
theorem dX12_clause_241 : decode cX12_clause 241 = .ok (.getfield 63, 3) := by decide +kernel
theorem dX12_clause_244 : decode cX12_clause 244 = .ok (.iload_n 1, 1) := by decide +kernel
theorem dX12_clause_245 : decode cX12_clause 245 = .ok (.aload_n 0, 1) := by decide +kernel
theorem dX12_clause_246 : decode cX12_clause 246 = .ok (.iconst 1, 1) := by decide +kernel
theorem dX12_clause_247 : decode cX12_clause 247 = .ok (.sipush 4000, 3) := by decide +kernel
theorem dX12_clause_250 : decode cX12_clause 250 = .ok (.invokevirtual 444, 3) := by decide +kernel
theorem dX12_clause_253 : decode cX12_clause 253 = .ok (.iastore, 1) := by decide +kernel
theorem dX12_clause_254 : decode cX12_clause 254 = .ok (.aload_n 0, 1) := by decide +kernel
theorem dX12_clause_255 : decode cX12_clause 255 = .ok (.getfield 66, 3) := by decide +kernel
theorem dX12_clause_258 : decode cX12_clause 258 = .ok (.iload_n 1, 1) := by decide +kernel
theorem dX12_clause_259 : decode cX12_clause 259 = .ok (.aload_n 0, 1) := by decide +kernel
theorem dX12_clause_260 : decode cX12_clause 260 = .ok (.iconst 1, 1) := by decide +kernel
theorem dX12_clause_261 : decode cX12_clause 261 = .ok (.sipush 4000, 3) := by decide +kernel
theorem dX12_clause_264 : decode cX12_clause 264 = .ok (.invokevirtual 444, 3) := by decide +kernel
theorem dX12_clause_267 : decode cX12_clause 267 = .ok (.iastore, 1) := by decide +kernel
theorem dX12_clause_268 : decode cX12_clause 268 = .ok (.goto 22, 3) := by decide +kernel
theorem dX12_clause_271 : decode cX12_clause 271 = .ok (.iload_n 2, 1) := by decide +kernel
theorem dX12_clause_272 : decode cX12_clause 272 = .ok (.bipush 7, 2) := by decide +kernel
theorem dX12_clause_274 : decode cX12_clause 274 = .ok (.if_icmp .ne 16, 3) := by decide +kernel
theorem dX12_clause_277 : decode cX12_clause 277 = .ok (.aload_n 0, 1) := by decide +kernel
theorem dX12_clause_278 : decode cX12_clause 278 = .ok (.getfield 57, 3) := by decide +kernel
theorem dX12_clause_281 : decode cX12_clause 281 = .ok (.iload_n 1, 1) := by decide +kernel
theorem dX12_clause_282 : decode cX12_clause 282 = .ok (.aload_n 0, 1) := by decide +kernel
theorem dX12_clause_283 : decode cX12_clause 283 = .ok (.iconst 1, 1) := by decide +kernel
theorem dX12_clause_284 : decode cX12_clause 284 = .ok (.bipush 60, 2) := by decide +kernel
theorem dX12_clause_286 : decode cX12_clause 286 = .ok (.invokevirtual 444, 3) := by decide +kernel
theorem dX12_clause_289 : decode cX12_clause 289 = .ok (.iastore, 1) := by decide +kernel
theorem dX12_clause_290 : decode cX12_clause 290 = .ok (.aload_n 0, 1) := by decide +kernel
theorem dX12_clause_291 : decode cX12_clause 291 = .ok (.bipush 59, 2) := by decide +kernel
theorem dX12_clause_293 : decode cX12_clause 293 = .ok (.invokevirtual 431, 3) := by decide +kernel
theorem dX12_clause_296 : decode cX12_clause 296 = .ok (.return_, 1) := by decide +kernel
def B_M_clause_290    (σ : CS) : Option (Int32 × CS) := bnd (f_M_sign 59 σ) (fun _ σ293 => some (0, σ293))
set_option maxHeartbeats 4000000 in
set_option maxRecDepth 100000 in
theorem w_M_clause_290 (C : Cx g p s m args meth c A 3 cX12_clause yX12_clause.cls) (hr : meth.sig.returnType = none)  {res : Int32 × CS}     (σ : CS) (h : B_M_clause_290 σ = some res) : NMV g p l e s m args below meth c A 1001 40021 3 am Rr res σ [(0, .ref (am 112))] 290 [] := by
  unfold B_M_clause_290 at h
  refine nw_aload_n C dX12_clause_290 rfl 0 rfl ?_
  refine nw_bipush (v := 59) C dX12_clause_291 (by decide) ?_
  refine nm_callVV (q0 := 0) (As := [.int 59]) (rest := []) C h (fun _ _ e => c_M_sign e) tw_2075 kv_X12_sign ml_O rfl ⟨Nat.le_of_ble_eq_true rfl, Nat.le_of_ble_eq_true rfl⟩ rfl dX12_clause_293 rfl (Nat.le_of_ble_eq_true rfl) (fun r293 σ293 h => ?_)
  exact nm_vret C hr dX12_clause_296 h
def B_M_clause_188   (x1 : Int32) (z1 : Int32) (z2 : Int32) (σ : CS) : Option (Int32 × CS) := gix z1 120 (gix x1 120 (if (rd (wr σ 31 z1 z2) 31 x1) = 0 then bnd (f_M_eat 39 (wr σ 31 z1 z2)) (fun r202 σ202 => if r202 = 0 then bnd (f_M_wrong 1 (σ202.1 23) σ202) (fun _ σ214 => B_M_clause_290 σ214) else B_M_clause_290 σ202) else B_M_clause_290 (wr σ 31 z1 z2)))
set_option maxHeartbeats 4000000 in
set_option maxRecDepth 100000 in
theorem w_M_clause_188 (C : Cx g p s m args meth c A 3 cX12_clause yX12_clause.cls) (hr : meth.sig.returnType = none)  {res : Int32 × CS}   (x1 : Int32) (z1 : Int32) (z2 : Int32)  (σ : CS) (h : B_M_clause_188 x1 z1 z2 σ = some res) : NMV g p l e s m args below meth c A 1001 40021 3 am Rr res σ [(0, .ref (am 112)), (1, .int x1)] 188 [.int z2, .int z1, .ref (am 31)] := by
  unfold B_M_clause_188 at h
  refine nw_iast C 15 ml_31 dX12_clause_188 h ms_31 (fun h => ?_)
  refine nw_aload_n C dX12_clause_189 rfl 0 rfl ?_
  refine nw_get (v := .ref (am 31)) C in_X12 0 ml_O rfl 31 (by decide) tw_1604 rfl mf_31 dX12_clause_190 ?_
  refine nw_iload_n C dX12_clause_193 rfl 1 rfl ?_
  refine nw_iald C 15 ml_31 dX12_clause_194 h (fun h => ?_)
  refine nw_st (st' := [.int (rd (wr σ 31 z1 z2) 31 x1)]) rfl ?_
  refine nw_if_ne (tgt := 290) C dX12_clause_195 (by decide) h (fun _ h => ?_) (fun _ h => ?_)
  · refine nw_aload_n C dX12_clause_198 rfl 0 rfl ?_
    refine nw_ldsw (i := 39) C (by decide) rfl rfl dX12_clause_199 ?_
    refine nm_callVI (q0 := 0) (As := [.ref (gK g 39)]) (rest := []) C h (fun _ _ e => c_M_eat 39 (by decide) e) tw_2071 kv_X12_eat ml_O rfl ⟨Nat.le_of_ble_eq_true rfl, Nat.le_of_ble_eq_true rfl⟩ rfl dX12_clause_202 rfl (Nat.le_of_ble_eq_true rfl) (fun r202 σ202 h => ?_)
    refine nw_if_ne (tgt := 290) C dX12_clause_205 (by decide) h (fun _ h => ?_) (fun _ h => ?_)
    · refine nw_aload_n C dX12_clause_208 rfl 0 rfl ?_
      refine nw_iconst (v := 1) C dX12_clause_209 (by decide) ?_
      refine nw_aload_n C dX12_clause_210 rfl 0 rfl ?_
      refine nw_get (v := .int (σ202.1 23)) C in_X12 0 ml_O rfl 23 (by decide) tw_1596 rfl mf_23 dX12_clause_211 ?_
      refine nm_callVV (q0 := 0) (As := [.int 1, .int (σ202.1 23)]) (rest := []) C h (fun _ _ e => c_M_wrong e) tw_2050 kv_X12_wrong ml_O rfl ⟨Nat.le_of_ble_eq_true rfl, Nat.le_of_ble_eq_true rfl⟩ rfl dX12_clause_214 rfl (Nat.le_of_ble_eq_true rfl) (fun r214 σ214 h => ?_)
      refine nw_goto (tgt := 290) C dX12_clause_217 (by decide) ?_
      exact nw_lv (lv' := [(0, .ref (am 112))]) [0] rfl (w_M_clause_290 C hr _ h)
    · exact nw_lv (lv' := [(0, .ref (am 112))]) [0] rfl (w_M_clause_290 C hr _ h)
  · exact nw_lv (lv' := [(0, .ref (am 112))]) [0] rfl (w_M_clause_290 C hr _ h)
def B_M_clause_138   (x1 : Int32) (x2 : Int32) (σ : CS) : Option (Int32 × CS) := if x2 = 4 then bnd (f_M_figures 0 ((σ.1 21) - 1) σ) (fun r156 σ156 => gix x1 120 (B_M_clause_290 (wr σ156 31 x1 r156))) else if x2 = 5 then bnd (f_M_eat 38 σ) (fun r177 σ177 => if r177 = 0 then B_M_clause_188 x1 x1 0 σ177 else B_M_clause_188 x1 x1 1 σ177) else if x2 = 6 then bnd (f_M_figures 1 4000 σ) (fun r236 σ236 => gix x1 120 (bnd (f_M_figures 1 4000 (wr σ236 31 x1 r236)) (fun r250 σ250 => gix x1 120 (bnd (f_M_figures 1 4000 (wr σ250 33 x1 r250)) (fun r264 σ264 => gix x1 120 (B_M_clause_290 (wr σ264 34 x1 r264))))))) else if x2 = 7 then bnd (f_M_figures 1 60 σ) (fun r286 σ286 => gix x1 120 (B_M_clause_290 (wr σ286 31 x1 r286))) else B_M_clause_290 σ
set_option maxHeartbeats 4000000 in
set_option maxRecDepth 100000 in
theorem w_M_clause_138 (C : Cx g p s m args meth c A 3 cX12_clause yX12_clause.cls) (hr : meth.sig.returnType = none)  {res : Int32 × CS}   (x1 : Int32) (x2 : Int32)  (σ : CS) (h : B_M_clause_138 x1 x2 σ = some res) : NMV g p l e s m args below meth c A 1001 40021 3 am Rr res σ [(0, .ref (am 112)), (1, .int x1), (2, .int x2)] 138 [] := by
  unfold B_M_clause_138 at h
  refine nw_iload_n C dX12_clause_138 rfl 2 rfl ?_
  refine nw_iconst (v := 4) C dX12_clause_139 (by decide) ?_
  refine nw_icmp_ne (tgt := 163) C dX12_clause_140 (by decide) h (fun _ h => ?_) (fun _ h => ?_)
  · refine nw_aload_n C dX12_clause_143 rfl 0 rfl ?_
    refine nw_get (v := .ref (am 31)) C in_X12 0 ml_O rfl 31 (by decide) tw_1604 rfl mf_31 dX12_clause_144 ?_
    refine nw_iload_n C dX12_clause_147 rfl 1 rfl ?_
    refine nw_aload_n C dX12_clause_148 rfl 0 rfl ?_
    refine nw_iconst (v := 0) C dX12_clause_149 (by decide) ?_
    refine nw_aload_n C dX12_clause_150 rfl 0 rfl ?_
    refine nw_get (v := .int (σ.1 21)) C in_X12 0 ml_O rfl 21 (by decide) tw_1594 rfl mf_21 dX12_clause_151 ?_
    refine nw_iconst (v := 1) C dX12_clause_154 (by decide) ?_
    refine nw_isub C dX12_clause_155 ?_
    refine nm_callVI (q0 := 0) (As := [.int 0, .int ((σ.1 21) - 1)]) (rest := [.int x1, .ref (am 31)]) C h (fun _ _ e => c_M_figures e) tw_2094 kv_X12_figures ml_O rfl ⟨Nat.le_of_ble_eq_true rfl, Nat.le_of_ble_eq_true rfl⟩ rfl dX12_clause_156 rfl (Nat.le_of_ble_eq_true rfl) (fun r156 σ156 h => ?_)
    refine nw_iast C 15 ml_31 dX12_clause_159 h ms_31 (fun h => ?_)
    refine nw_goto (tgt := 290) C dX12_clause_160 (by decide) ?_
    exact nw_lv (lv' := [(0, .ref (am 112))]) [0] rfl (w_M_clause_290 C hr _ h)
  · refine nw_iload_n C dX12_clause_163 rfl 2 rfl ?_
    refine nw_iconst (v := 5) C dX12_clause_164 (by decide) ?_
    refine nw_icmp_ne (tgt := 220) C dX12_clause_165 (by decide) h (fun _ h => ?_) (fun _ h => ?_)
    · refine nw_aload_n C dX12_clause_168 rfl 0 rfl ?_
      refine nw_get (v := .ref (am 31)) C in_X12 0 ml_O rfl 31 (by decide) tw_1604 rfl mf_31 dX12_clause_169 ?_
      refine nw_iload_n C dX12_clause_172 rfl 1 rfl ?_
      refine nw_aload_n C dX12_clause_173 rfl 0 rfl ?_
      refine nw_ldsw (i := 38) C (by decide) rfl rfl dX12_clause_174 ?_
      refine nm_callVI (q0 := 0) (As := [.ref (gK g 38)]) (rest := [.int x1, .ref (am 31)]) C h (fun _ _ e => c_M_eat 38 (by decide) e) tw_2071 kv_X12_eat ml_O rfl ⟨Nat.le_of_ble_eq_true rfl, Nat.le_of_ble_eq_true rfl⟩ rfl dX12_clause_177 rfl (Nat.le_of_ble_eq_true rfl) (fun r177 σ177 h => ?_)
      refine nw_if_eq (tgt := 187) C dX12_clause_180 (by decide) h (fun _ h => ?_) (fun _ h => ?_)
      · refine nw_iconst (v := 0) C dX12_clause_187 (by decide) ?_
        exact nw_lv (lv' := [(0, .ref (am 112)), (1, .int x1)]) [0, 1] rfl (w_M_clause_188 C hr x1 x1 0 _ h)
      · refine nw_iconst (v := 1) C dX12_clause_183 (by decide) ?_
        refine nw_goto (tgt := 188) C dX12_clause_184 (by decide) ?_
        exact nw_lv (lv' := [(0, .ref (am 112)), (1, .int x1)]) [0, 1] rfl (w_M_clause_188 C hr x1 x1 1 _ h)
    · refine nw_iload_n C dX12_clause_220 rfl 2 rfl ?_
      refine nw_bipush (v := 6) C dX12_clause_221 (by decide) ?_
      refine nw_icmp_ne (tgt := 271) C dX12_clause_223 (by decide) h (fun _ h => ?_) (fun _ h => ?_)
      · refine nw_aload_n C dX12_clause_226 rfl 0 rfl ?_
        refine nw_get (v := .ref (am 31)) C in_X12 0 ml_O rfl 31 (by decide) tw_1604 rfl mf_31 dX12_clause_227 ?_
        refine nw_iload_n C dX12_clause_230 rfl 1 rfl ?_
        refine nw_aload_n C dX12_clause_231 rfl 0 rfl ?_
        refine nw_iconst (v := 1) C dX12_clause_232 (by decide) ?_
        refine nw_sipush (v := 4000) C dX12_clause_233 (by decide) ?_
        refine nm_callVI (q0 := 0) (As := [.int 1, .int 4000]) (rest := [.int x1, .ref (am 31)]) C h (fun _ _ e => c_M_figures e) tw_2094 kv_X12_figures ml_O rfl ⟨Nat.le_of_ble_eq_true rfl, Nat.le_of_ble_eq_true rfl⟩ rfl dX12_clause_236 rfl (Nat.le_of_ble_eq_true rfl) (fun r236 σ236 h => ?_)
        refine nw_iast C 15 ml_31 dX12_clause_239 h ms_31 (fun h => ?_)
        refine nw_aload_n C dX12_clause_240 rfl 0 rfl ?_
        refine nw_get (v := .ref (am 33)) C in_X12 0 ml_O rfl 33 (by decide) tw_1606 rfl mf_33 dX12_clause_241 ?_
        refine nw_iload_n C dX12_clause_244 rfl 1 rfl ?_
        refine nw_aload_n C dX12_clause_245 rfl 0 rfl ?_
        refine nw_iconst (v := 1) C dX12_clause_246 (by decide) ?_
        refine nw_sipush (v := 4000) C dX12_clause_247 (by decide) ?_
        refine nm_callVI (q0 := 0) (As := [.int 1, .int 4000]) (rest := [.int x1, .ref (am 33)]) C h (fun _ _ e => c_M_figures e) tw_2094 kv_X12_figures ml_O rfl ⟨Nat.le_of_ble_eq_true rfl, Nat.le_of_ble_eq_true rfl⟩ rfl dX12_clause_250 rfl (Nat.le_of_ble_eq_true rfl) (fun r250 σ250 h => ?_)
        refine nw_iast C 17 ml_33 dX12_clause_253 h ms_33 (fun h => ?_)
        refine nw_aload_n C dX12_clause_254 rfl 0 rfl ?_
        refine nw_get (v := .ref (am 34)) C in_X12 0 ml_O rfl 34 (by decide) tw_1607 rfl mf_34 dX12_clause_255 ?_
        refine nw_iload_n C dX12_clause_258 rfl 1 rfl ?_
        refine nw_aload_n C dX12_clause_259 rfl 0 rfl ?_
        refine nw_iconst (v := 1) C dX12_clause_260 (by decide) ?_
        refine nw_sipush (v := 4000) C dX12_clause_261 (by decide) ?_
        refine nm_callVI (q0 := 0) (As := [.int 1, .int 4000]) (rest := [.int x1, .ref (am 34)]) C h (fun _ _ e => c_M_figures e) tw_2094 kv_X12_figures ml_O rfl ⟨Nat.le_of_ble_eq_true rfl, Nat.le_of_ble_eq_true rfl⟩ rfl dX12_clause_264 rfl (Nat.le_of_ble_eq_true rfl) (fun r264 σ264 h => ?_)
        refine nw_iast C 18 ml_34 dX12_clause_267 h ms_34 (fun h => ?_)
        refine nw_goto (tgt := 290) C dX12_clause_268 (by decide) ?_
        exact nw_lv (lv' := [(0, .ref (am 112))]) [0] rfl (w_M_clause_290 C hr _ h)
      · refine nw_iload_n C dX12_clause_271 rfl 2 rfl ?_
        refine nw_bipush (v := 7) C dX12_clause_272 (by decide) ?_
        refine nw_icmp_ne (tgt := 290) C dX12_clause_274 (by decide) h (fun _ h => ?_) (fun _ h => ?_)
        · refine nw_aload_n C dX12_clause_277 rfl 0 rfl ?_
          refine nw_get (v := .ref (am 31)) C in_X12 0 ml_O rfl 31 (by decide) tw_1604 rfl mf_31 dX12_clause_278 ?_
          refine nw_iload_n C dX12_clause_281 rfl 1 rfl ?_
          refine nw_aload_n C dX12_clause_282 rfl 0 rfl ?_
          refine nw_iconst (v := 1) C dX12_clause_283 (by decide) ?_
          refine nw_bipush (v := 60) C dX12_clause_284 (by decide) ?_
          refine nm_callVI (q0 := 0) (As := [.int 1, .int 60]) (rest := [.int x1, .ref (am 31)]) C h (fun _ _ e => c_M_figures e) tw_2094 kv_X12_figures ml_O rfl ⟨Nat.le_of_ble_eq_true rfl, Nat.le_of_ble_eq_true rfl⟩ rfl dX12_clause_286 rfl (Nat.le_of_ble_eq_true rfl) (fun r286 σ286 h => ?_)
          refine nw_iast C 15 ml_31 dX12_clause_289 h ms_31 (fun h => ?_)
          exact nw_lv (lv' := [(0, .ref (am 112))]) [0] rfl (w_M_clause_290 C hr _ h)
        · exact nw_lv (lv' := [(0, .ref (am 112))]) [0] rfl (w_M_clause_290 C hr _ h)
def B_M_clause_64   (x1 : Int32) (x2 : Int32) (σ : CS) : Option (Int32 × CS) := if x2 = 3 then bnd (f_M_sign 61 σ) (fun _ σ72 => gix x1 120 (bnd (g_MP 100 0 (wr σ72 32 x1 (σ72.1 27))) (fun _ σ86 => bnd (f_M_emits 14 0 σ86) (fun _ σ93 => B_M_clause_290 σ93)))) else if 1 < x2 then B_M_clause_138 x1 x2 σ else bnd (f_M_eat 34 σ) (fun r108 σ108 => if r108 = 0 then B_M_clause_138 x1 x2 σ108 else gix x1 120 (bnd (g_MP 100 3 (wr σ108 32 x1 (σ108.1 27))) (fun _ σ125 => bnd (f_M_emits 14 0 σ125) (fun _ σ132 => B_M_clause_290 σ132))))
set_option maxHeartbeats 4000000 in
set_option maxRecDepth 100000 in
theorem w_M_clause_64 (C : Cx g p s m args meth c A 3 cX12_clause yX12_clause.cls) (hr : meth.sig.returnType = none)  {res : Int32 × CS}   (x1 : Int32) (x2 : Int32)  (σ : CS) (h : B_M_clause_64 x1 x2 σ = some res) : NMV g p l e s m args below meth c A 1001 40021 3 am Rr res σ [(0, .ref (am 112)), (1, .int x1), (2, .int x2)] 64 [] := by
  unfold B_M_clause_64 at h
  refine nw_iload_n C dX12_clause_64 rfl 2 rfl ?_
  refine nw_iconst (v := 3) C dX12_clause_65 (by decide) ?_
  refine nw_icmp_ne (tgt := 99) C dX12_clause_66 (by decide) h (fun _ h => ?_) (fun _ h => ?_)
  · refine nw_aload_n C dX12_clause_69 rfl 0 rfl ?_
    refine nw_bipush (v := 61) C dX12_clause_70 (by decide) ?_
    refine nm_callVV (q0 := 0) (As := [.int 61]) (rest := []) C h (fun _ _ e => c_M_sign e) tw_2075 kv_X12_sign ml_O rfl ⟨Nat.le_of_ble_eq_true rfl, Nat.le_of_ble_eq_true rfl⟩ rfl dX12_clause_72 rfl (Nat.le_of_ble_eq_true rfl) (fun r72 σ72 h => ?_)
    refine nw_aload_n C dX12_clause_75 rfl 0 rfl ?_
    refine nw_get (v := .ref (am 32)) C in_X12 0 ml_O rfl 32 (by decide) tw_1605 rfl mf_32 dX12_clause_76 ?_
    refine nw_iload_n C dX12_clause_79 rfl 1 rfl ?_
    refine nw_aload_n C dX12_clause_80 rfl 0 rfl ?_
    refine nw_get (v := .int (σ72.1 27)) C in_X12 0 ml_O rfl 27 (by decide) tw_1600 rfl mf_27 dX12_clause_81 ?_
    refine nw_iast C 16 ml_32 dX12_clause_84 h ms_32 (fun h => ?_)
    refine nw_aload_n C dX12_clause_85 rfl 0 rfl ?_
    refine nm_callVV (q0 := 0) (As := []) (rest := []) C h (fun _ _ e => cg_M_sum 100 e) tw_2079 kv_X12_sum ml_O rfl ⟨Nat.le_of_ble_eq_true rfl, Nat.le_of_ble_eq_true rfl⟩ rfl dX12_clause_86 rfl (Nat.le_of_ble_eq_true rfl) (fun r86 σ86 h => ?_)
    refine nw_aload_n C dX12_clause_89 rfl 0 rfl ?_
    refine nw_bipush (v := 14) C dX12_clause_90 (by decide) ?_
    refine nw_iconst (v := 0) C dX12_clause_92 (by decide) ?_
    refine nm_callVV (q0 := 0) (As := [.int 14, .int 0]) (rest := []) C h (fun _ _ e => c_M_emits e) tw_2098 kv_X12_emits ml_O rfl ⟨Nat.le_of_ble_eq_true rfl, Nat.le_of_ble_eq_true rfl⟩ rfl dX12_clause_93 rfl (Nat.le_of_ble_eq_true rfl) (fun r93 σ93 h => ?_)
    refine nw_goto (tgt := 290) C dX12_clause_96 (by decide) ?_
    exact nw_lv (lv' := [(0, .ref (am 112))]) [0] rfl (w_M_clause_290 C hr _ h)
  · refine nw_iload_n C dX12_clause_99 rfl 2 rfl ?_
    refine nw_iconst (v := 1) C dX12_clause_100 (by decide) ?_
    refine nw_icmp_gt (tgt := 138) C dX12_clause_101 (by decide) h (fun _ h => ?_) (fun _ h => ?_)
    · exact nw_lv (lv' := [(0, .ref (am 112)), (1, .int x1), (2, .int x2)]) [0, 1, 2] rfl (w_M_clause_138 C hr x1 x2 _ h)
    · refine nw_aload_n C dX12_clause_104 rfl 0 rfl ?_
      refine nw_ldsw (i := 34) C (by decide) rfl rfl dX12_clause_105 ?_
      refine nm_callVI (q0 := 0) (As := [.ref (gK g 34)]) (rest := []) C h (fun _ _ e => c_M_eat 34 (by decide) e) tw_2071 kv_X12_eat ml_O rfl ⟨Nat.le_of_ble_eq_true rfl, Nat.le_of_ble_eq_true rfl⟩ rfl dX12_clause_108 rfl (Nat.le_of_ble_eq_true rfl) (fun r108 σ108 h => ?_)
      refine nw_if_eq (tgt := 138) C dX12_clause_111 (by decide) h (fun _ h => ?_) (fun _ h => ?_)
      · exact nw_lv (lv' := [(0, .ref (am 112)), (1, .int x1), (2, .int x2)]) [0, 1, 2] rfl (w_M_clause_138 C hr x1 x2 _ h)
      · refine nw_aload_n C dX12_clause_114 rfl 0 rfl ?_
        refine nw_get (v := .ref (am 32)) C in_X12 0 ml_O rfl 32 (by decide) tw_1605 rfl mf_32 dX12_clause_115 ?_
        refine nw_iload_n C dX12_clause_118 rfl 1 rfl ?_
        refine nw_aload_n C dX12_clause_119 rfl 0 rfl ?_
        refine nw_get (v := .int (σ108.1 27)) C in_X12 0 ml_O rfl 27 (by decide) tw_1600 rfl mf_27 dX12_clause_120 ?_
        refine nw_iast C 16 ml_32 dX12_clause_123 h ms_32 (fun h => ?_)
        refine nw_aload_n C dX12_clause_124 rfl 0 rfl ?_
        refine nm_callVV (q0 := 0) (As := []) (rest := []) C h (fun _ _ e => cg_M_ors 100 e) tw_2122 kv_X12_ors ml_O rfl ⟨Nat.le_of_ble_eq_true rfl, Nat.le_of_ble_eq_true rfl⟩ rfl dX12_clause_125 rfl (Nat.le_of_ble_eq_true rfl) (fun r125 σ125 h => ?_)
        refine nw_aload_n C dX12_clause_128 rfl 0 rfl ?_
        refine nw_bipush (v := 14) C dX12_clause_129 (by decide) ?_
        refine nw_iconst (v := 0) C dX12_clause_131 (by decide) ?_
        refine nm_callVV (q0 := 0) (As := [.int 14, .int 0]) (rest := []) C h (fun _ _ e => c_M_emits e) tw_2098 kv_X12_emits ml_O rfl ⟨Nat.le_of_ble_eq_true rfl, Nat.le_of_ble_eq_true rfl⟩ rfl dX12_clause_132 rfl (Nat.le_of_ble_eq_true rfl) (fun r132 σ132 h => ?_)
        refine nw_goto (tgt := 290) C dX12_clause_135 (by decide) ?_
        exact nw_lv (lv' := [(0, .ref (am 112))]) [0] rfl (w_M_clause_290 C hr _ h)
def f_M_clause (p0 : Int32) (σ : CS) : Option (Int32 × CS) := bnd (f_M_clauseHere σ) (fun r1 σ1 => if 0 ≤ r1 then bnd (f_M_clauseName r1 σ1) (fun r25 σ25 => gix p0 120 (gix p0 120 (if 3 < r1 then B_M_clause_64 p0 r1 (wr (wr (sF σ25 23 ((σ1.1 23) + (slen r25.toNatClampNeg))) 30 p0 r1) 32 p0 (-1)) else bnd (f_M_act (wr (wr (sF σ25 23 ((σ1.1 23) + (slen r25.toNatClampNeg))) 30 p0 r1) 32 p0 (-1))) (fun r60 σ60 => gix p0 120 (B_M_clause_64 p0 r1 (wr σ60 31 p0 r60)))))) else bnd (f_M_wrong 1 (σ1.1 23) σ1) (fun _ σ15 => some (0, σ15)))
set_option maxHeartbeats 4000000 in
set_option maxRecDepth 100000 in
theorem c_M_clause {l : Launch} {g : EG} {am : Nat → Nat} {Rr : va_W} {σ σ' : CS} {r : Int32} {p0 : Int32}  (h : f_M_clause p0 σ = some (r, σ')) : CmV l g yX12_clause (.code yX12_clause cX12_clause 3 none) 1001 40021 am Rr σ [.ref (am 112), .int p0] r σ' := by
  refine Ct.of rfl (by decide) (Nat.le_of_ble_eq_true rfl) ?_
  intro p e s m args below meth c A C hr
  show NMV g p l e s m args below meth c A 1001 40021 3 am Rr (r, σ') σ [(0, .ref (am 112)), (1, .int p0)] 0 []
  unfold f_M_clause at h
  refine nw_aload_n C dX12_clause_0 rfl 0 rfl ?_
  refine nm_callVI (q0 := 0) (As := []) (rest := []) C h (fun _ _ e => c_M_clauseHere e) tw_2029 kv_X12_clauseHere ml_O rfl ⟨Nat.le_of_ble_eq_true rfl, Nat.le_of_ble_eq_true rfl⟩ rfl dX12_clause_1 rfl (Nat.le_of_ble_eq_true rfl) (fun r1 σ1 h => ?_)
  refine nw_istore_n (lv' := [(2, .int r1), (0, .ref (am 112)), (1, .int p0)]) C dX12_clause_4 rfl (by decide) rfl ?_
  refine nw_iload_n C dX12_clause_5 rfl 0 rfl ?_
  refine nw_if_ge (tgt := 19) C dX12_clause_6 (by decide) h (fun _ h => ?_) (fun _ h => ?_)
  · refine nw_aload_n C dX12_clause_19 rfl 1 rfl ?_
    refine nw_dup C dX12_clause_20 rfl ?_
    refine nw_get (v := .int (σ1.1 23)) C in_X12 0 ml_O rfl 23 (by decide) tw_1596 rfl mf_23 dX12_clause_21 ?_
    refine nw_iload_n C dX12_clause_24 rfl 0 rfl ?_
    refine nm_callSS  (As := [.int r1]) (rest := [.int (σ1.1 23), .ref (am 112)]) C h (fun _ _ e => c_M_clauseName e) tw_2033 ks_X12_clauseName ⟨Nat.le_of_ble_eq_true rfl, Nat.le_of_ble_eq_true rfl⟩ rfl dX12_clause_25 rfl (Nat.le_of_ble_eq_true rfl) (fun r25 σ25 hs25 h => ?_)
    refine nw_strlen C hs25 tw_2048 ⟨Nat.le_of_ble_eq_true rfl, Nat.le_of_ble_eq_true rfl⟩ ⟨Nat.le_refl _, Nat.le_refl _⟩ dX12_clause_28 (Nat.le_of_ble_eq_true rfl) ?_
    refine nw_iadd C dX12_clause_31 ?_
    refine nw_put (ty := .int) C in_X12 0 ml_O rfl 23 (by decide) tyX12 tyX12_ok nmX12 tw_1596 rfl rfl (by decide +kernel) rfl rfl (Nat.le_of_ble_eq_true rfl) dX12_clause_32 ms_23 ?_
    refine nw_aload_n C dX12_clause_35 rfl 1 rfl ?_
    refine nw_get (v := .ref (am 30)) C in_X12 0 ml_O rfl 30 (by decide) tw_1603 rfl mf_30 dX12_clause_36 ?_
    refine nw_iload_n C dX12_clause_39 rfl 2 rfl ?_
    refine nw_iload_n C dX12_clause_40 rfl 0 rfl ?_
    refine nw_iast C 14 ml_30 dX12_clause_41 h ms_30 (fun h => ?_)
    refine nw_aload_n C dX12_clause_42 rfl 1 rfl ?_
    refine nw_get (v := .ref (am 32)) C in_X12 0 ml_O rfl 32 (by decide) tw_1605 rfl mf_32 dX12_clause_43 ?_
    refine nw_iload_n C dX12_clause_46 rfl 2 rfl ?_
    refine nw_iconst (v := (-1)) C dX12_clause_47 (by decide) ?_
    refine nw_iast C 16 ml_32 dX12_clause_48 h ms_32 (fun h => ?_)
    refine nw_iload_n C dX12_clause_49 rfl 0 rfl ?_
    refine nw_iconst (v := 3) C dX12_clause_50 (by decide) ?_
    refine nw_icmp_gt (tgt := 64) C dX12_clause_51 (by decide) h (fun _ h => ?_) (fun _ h => ?_)
    · exact nw_lv (lv' := [(0, .ref (am 112)), (1, .int p0), (2, .int r1)]) [1, 2, 0] rfl (w_M_clause_64 C hr p0 r1 _ h)
    · refine nw_aload_n C dX12_clause_54 rfl 1 rfl ?_
      refine nw_get (v := .ref (am 31)) C in_X12 0 ml_O rfl 31 (by decide) tw_1604 rfl mf_31 dX12_clause_55 ?_
      refine nw_iload_n C dX12_clause_58 rfl 2 rfl ?_
      refine nw_aload_n C dX12_clause_59 rfl 1 rfl ?_
      refine nm_callVI (q0 := 0) (As := []) (rest := [.int p0, .ref (am 31)]) C h (fun _ _ e => c_M_act e) tw_2058 kv_X12_act ml_O rfl ⟨Nat.le_of_ble_eq_true rfl, Nat.le_of_ble_eq_true rfl⟩ rfl dX12_clause_60 rfl (Nat.le_of_ble_eq_true rfl) (fun r60 σ60 h => ?_)
      refine nw_iast C 15 ml_31 dX12_clause_63 h ms_31 (fun h => ?_)
      exact nw_lv (lv' := [(0, .ref (am 112)), (1, .int p0), (2, .int r1)]) [1, 2, 0] rfl (w_M_clause_64 C hr p0 r1 _ h)
  · refine nw_aload_n C dX12_clause_9 rfl 1 rfl ?_
    refine nw_iconst (v := 1) C dX12_clause_10 (by decide) ?_
    refine nw_aload_n C dX12_clause_11 rfl 1 rfl ?_
    refine nw_get (v := .int (σ1.1 23)) C in_X12 0 ml_O rfl 23 (by decide) tw_1596 rfl mf_23 dX12_clause_12 ?_
    refine nm_callVV (q0 := 0) (As := [.int 1, .int (σ1.1 23)]) (rest := []) C h (fun _ _ e => c_M_wrong e) tw_2050 kv_X12_wrong ml_O rfl ⟨Nat.le_of_ble_eq_true rfl, Nat.le_of_ble_eq_true rfl⟩ rfl dX12_clause_15 rfl (Nat.le_of_ble_eq_true rfl) (fun r15 σ15 h => ?_)
    exact nm_vret C hr dX12_clause_18 h
theorem dX12_text_0 : decode cX12_text 0 = .ok (.aload_n 0, 1) := by decide +kernel
theorem dX12_text_1 : decode cX12_text 1 = .ok (.iconst 0, 1) := by decide +kernel
theorem dX12_text_2 : decode cX12_text 2 = .ok (.putfield 253, 3) := by decide +kernel
theorem dX12_text_5 : decode cX12_text 5 = .ok (.aload_n 0, 1) := by decide +kernel
theorem dX12_text_6 : decode cX12_text 6 = .ok (.iload_n 1, 1) := by decide +kernel
theorem dX12_text_7 : decode cX12_text 7 = .ok (.invokestatic 298, 3) := by decide +kernel
theorem dX12_text_10 : decode cX12_text 10 = .ok (.ifCond .eq 15, 3) := by decide +kernel
theorem dX12_text_13 : decode cX12_text 13 = .ok (.iload_n 2, 1) := by decide +kernel
theorem dX12_text_14 : decode cX12_text 14 = .ok (.ifCond .lt 11, 3) := by decide +kernel
theorem dX12_text_17 : decode cX12_text 17 = .ok (.iload_n 2, 1) := by decide +kernel
theorem dX12_text_18 : decode cX12_text 18 = .ok (.aload_n 0, 1) := by decide +kernel
theorem dX12_text_19 : decode cX12_text 19 = .ok (.getfield 272, 3) := by decide +kernel
theorem dX12_text_22 : decode cX12_text 22 = .ok (.if_icmp .le 7, 3) := by decide +kernel
theorem dX12_text_25 : decode cX12_text 25 = .ok (.iconst 1, 1) := by decide +kernel
theorem dX12_text_26 : decode cX12_text 26 = .ok (.goto 4, 3) := by decide +kernel
theorem dX12_text_29 : decode cX12_text 29 = .ok (.iconst 0, 1) := by decide +kernel
theorem dX12_text_30 : decode cX12_text 30 = .ok (.iconst 1, 1) := by decide +kernel
theorem dX12_text_31 : decode cX12_text 31 = .ok (.invokevirtual 265, 3) := by decide +kernel
theorem dX12_text_34 : decode cX12_text 34 = .ok (.ifCond .eq 5, 3) := by decide +kernel
theorem dX12_text_37 : decode cX12_text 37 = .ok (.iconst 0, 1) := by decide +kernel
theorem dX12_text_38 : decode cX12_text 38 = .ok (.ireturn, 1) := by decide +kernel
theorem dX12_text_39 : decode cX12_text 39 = .ok (.aload_n 0, 1) := by decide +kernel
theorem dX12_text_40 : decode cX12_text 40 = .ok (.iload_n 2, 1) := by decide +kernel
theorem dX12_text_41 : decode cX12_text 41 = .ok (.putfield 341, 3) := by decide +kernel
theorem dX12_text_44 : decode cX12_text 44 = .ok (.aload_n 0, 1) := by decide +kernel
theorem dX12_text_45 : decode cX12_text 45 = .ok (.iconst 0, 1) := by decide +kernel
theorem dX12_text_46 : decode cX12_text 46 = .ok (.putfield 272, 3) := by decide +kernel
theorem dX12_text_49 : decode cX12_text 49 = .ok (.aload_n 0, 1) := by decide +kernel
theorem dX12_text_50 : decode cX12_text 50 = .ok (.getfield 422, 3) := by decide +kernel
theorem dX12_text_53 : decode cX12_text 53 = .ok (.bipush 10, 2) := by decide +kernel
theorem dX12_text_55 : decode cX12_text 55 = .ok (.if_icmp .ne 5, 3) := by decide +kernel
theorem dX12_text_58 : decode cX12_text 58 = .ok (.iconst (-1), 1) := by decide +kernel
theorem dX12_text_59 : decode cX12_text 59 = .ok (.ireturn, 1) := by decide +kernel
theorem dX12_text_60 : decode cX12_text 60 = .ok (.aload_n 0, 1) := by decide +kernel
theorem dX12_text_61 : decode cX12_text 61 = .ok (.iconst 0, 1) := by decide +kernel
theorem dX12_text_62 : decode cX12_text 62 = .ok (.putfield 343, 3) := by decide +kernel
theorem dX12_text_65 : decode cX12_text 65 = .ok (.aload_n 0, 1) := by decide +kernel
theorem dX12_text_66 : decode cX12_text 66 = .ok (.iconst 0, 1) := by decide +kernel
theorem dX12_text_67 : decode cX12_text 67 = .ok (.putfield 349, 3) := by decide +kernel
theorem dX12_text_70 : decode cX12_text 70 = .ok (.aload_n 0, 1) := by decide +kernel
theorem dX12_text_71 : decode cX12_text 71 = .ok (.iconst (-1), 1) := by decide +kernel
theorem dX12_text_72 : decode cX12_text 72 = .ok (.putfield 44, 3) := by decide +kernel
theorem dX12_text_75 : decode cX12_text 75 = .ok (.aload_n 0, 1) := by decide +kernel
theorem dX12_text_76 : decode cX12_text 76 = .ok (.iconst 0, 1) := by decide +kernel
theorem dX12_text_77 : decode cX12_text 77 = .ok (.putfield 428, 3) := by decide +kernel
theorem dX12_text_80 : decode cX12_text 80 = .ok (.aload_n 0, 1) := by decide +kernel
theorem dX12_text_81 : decode cX12_text 81 = .ok (.iconst 0, 1) := by decide +kernel
theorem dX12_text_82 : decode cX12_text 82 = .ok (.putfield 425, 3) := by decide +kernel
theorem dX12_text_85 : decode cX12_text 85 = .ok (.iconst 0, 1) := by decide +kernel
theorem dX12_text_86 : decode cX12_text 86 = .ok (.istore_n 3, 1) := by decide +kernel
theorem dX12_text_87 : decode cX12_text 87 = .ok (.aload_n 0, 1) := by decide +kernel
theorem dX12_text_88 : decode cX12_text 88 = .ok (.invokevirtual 352, 3) := by decide +kernel
theorem dX12_text_91 : decode cX12_text 91 = .ok (.aload_n 0, 1) := by decide +kernel
theorem dX12_text_92 : decode cX12_text 92 = .ok (.getfield 349, 3) := by decide +kernel
theorem dX12_text_95 : decode cX12_text 95 = .ok (.ifCond .ne 66, 3) := by decide +kernel
theorem dX12_text_98 : decode cX12_text 98 = .ok (.aload_n 0, 1) := by decide +kernel
theorem dX12_text_99 : decode cX12_text 99 = .ok (.getfield 343, 3) := by decide +kernel
theorem dX12_text_102 : decode cX12_text 102 = .ok (.aload_n 0, 1) := by decide +kernel
theorem dX12_text_103 : decode cX12_text 103 = .ok (.getfield 341, 3) := by decide +kernel
theorem dX12_text_106 : decode cX12_text 106 = .ok (.if_icmp .ge 55, 3) := by decide +kernel
theorem dX12_text_109 : decode cX12_text 109 = .ok (.iload_n 3, 1) := by decide +kernel
theorem dX12_text_110 : decode cX12_text 110 = .ok (.bipush 12, 2) := by decide +kernel
theorem dX12_text_112 : decode cX12_text 112 = .ok (.if_icmp .ne 26, 3) := by decide +kernel
theorem dX12_text_115 : decode cX12_text 115 = .ok (.aload_n 0, 1) := by decide +kernel
theorem dX12_text_116 : decode cX12_text 116 = .ok (.aload_n 0, 1) := by decide +kernel
theorem dX12_text_117 : decode cX12_text 117 = .ok (.invokevirtual 479, 3) := by decide +kernel
theorem dX12_text_120 : decode cX12_text 120 = .ok (.ifCond .lt 7, 3) := by decide +kernel
theorem dX12_text_123 : decode cX12_text 123 = .ok (.iconst 3, 1) := by decide +kernel
theorem dX12_text_124 : decode cX12_text 124 = .ok (.goto 4, 3) := by decide +kernel
theorem dX12_text_127 : decode cX12_text 127 = .ok (.iconst 1, 1) := by decide +kernel
theorem dX12_text_128 : decode cX12_text 128 = .ok (.aload_n 0, 1) := by decide +kernel
theorem dX12_text_129 : decode cX12_text 129 = .ok (.getfield 343, 3) := by decide +kernel
theorem dX12_text_132 : decode cX12_text 132 = .ok (.invokevirtual 416, 3) := by decide +kernel
theorem dX12_text_135 : decode cX12_text 135 = .ok (.goto (-44), 3) := by decide +kernel
theorem dX12_text_138 : decode cX12_text 138 = .ok (.aload_n 0, 1) := by decide +kernel
theorem dX12_text_139 : decode cX12_text 139 = .ok (.bipush 12, 2) := by decide +kernel
theorem dX12_text_141 : decode cX12_text 141 = .ok (.aload_n 0, 1) := by decide +kernel
theorem dX12_text_142 : decode cX12_text 142 = .ok (.getfield 422, 3) := by decide +kernel
theorem dX12_text_145 : decode cX12_text 145 = .ok (.imul, 1) := by decide +kernel
theorem dX12_text_146 : decode cX12_text 146 = .ok (.iload_n 3, 1) := by decide +kernel
theorem dX12_text_147 : decode cX12_text 147 = .ok (.iadd, 1) := by decide +kernel
theorem dX12_text_148 : decode cX12_text 148 = .ok (.invokevirtual 491, 3) := by decide +kernel
theorem dX12_text_151 : decode cX12_text 151 = .ok (.iinc 3 1, 3) := by decide +kernel
theorem dX12_text_154 : decode cX12_text 154 = .ok (.aload_n 0, 1) := by decide +kernel
theorem dX12_text_155 : decode cX12_text 155 = .ok (.invokevirtual 352, 3) := by decide +kernel
theorem dX12_text_158 : decode cX12_text 158 = .ok (.goto (-67), 3) := by decide +kernel
theorem dX12_text_161 : decode cX12_text 161 = .ok (.aload_n 0, 1) := by decide +kernel
theorem dX12_text_162 : decode cX12_text 162 = .ok (.getfield 349, 3) := by decide +kernel
theorem dX12_text_165 : decode cX12_text 165 = .ok (.ifCond .le 11, 3) := by decide +kernel
theorem dX12_text_168 : decode cX12_text 168 = .ok (.aload_n 0, 1) := by decide +kernel
theorem dX12_text_169 : decode cX12_text 169 = .ok (.getfield 349, 3) := by decide +kernel
theorem dX12_text_172 : decode cX12_text 172 = .ok (.bipush 10, 2) := by decide +kernel
theorem dX12_text_174 : decode cX12_text 174 = .ok (.isub, 1) := by decide +kernel
theorem dX12_text_175 : decode cX12_text 175 = .ok (.ireturn, 1) := by decide +kernel
theorem dX12_text_176 : decode cX12_text 176 = .ok (.aload_n 0, 1) := by decide +kernel
theorem dX12_text_177 : decode cX12_text 177 = .ok (.getfield 48, 3) := by decide +kernel
theorem dX12_text_180 : decode cX12_text 180 = .ok (.aload_n 0, 1) := by decide +kernel
theorem dX12_text_181 : decode cX12_text 181 = .ok (.getfield 422, 3) := by decide +kernel
theorem dX12_text_184 : decode cX12_text 184 = .ok (.iload_n 1, 1) := by decide +kernel
theorem dX12_text_185 : decode cX12_text 185 = .ok (.iastore, 1) := by decide +kernel
theorem dX12_text_186 : decode cX12_text 186 = .ok (.aload_n 0, 1) := by decide +kernel
theorem dX12_text_187 : decode cX12_text 187 = .ok (.getfield 51, 3) := by decide +kernel
theorem dX12_text_190 : decode cX12_text 190 = .ok (.aload_n 0, 1) := by decide +kernel
theorem dX12_text_191 : decode cX12_text 191 = .ok (.getfield 422, 3) := by decide +kernel
theorem dX12_text_194 : decode cX12_text 194 = .ok (.iload_n 3, 1) := by decide +kernel
theorem dX12_text_195 : decode cX12_text 195 = .ok (.iastore, 1) := by decide +kernel
theorem dX12_text_196 : decode cX12_text 196 = .ok (.aload_n 0, 1) := by decide +kernel
theorem dX12_text_197 : decode cX12_text 197 = .ok (.dup, 1) := by decide +kernel
theorem dX12_text_198 : decode cX12_text 198 = .ok (.getfield 422, 3) := by decide +kernel
theorem dX12_text_201 : decode cX12_text 201 = .ok (.iconst 1, 1) := by decide +kernel
theorem dX12_text_202 : decode cX12_text 202 = .ok (.iadd, 1) := by decide +kernel
theorem dX12_text_203 : decode cX12_text 203 = .ok (.putfield 422, 3) := by decide +kernel
theorem dX12_text_206 : decode cX12_text 206 = .ok (.aload_n 0, 1) := by decide +kernel
theorem dX12_text_207 : decode cX12_text 207 = .ok (.getfield 422, 3) := by decide +kernel
theorem dX12_text_210 : decode cX12_text 210 = .ok (.iconst 1, 1) := by decide +kernel
theorem dX12_text_211 : decode cX12_text 211 = .ok (.isub, 1) := by decide +kernel
theorem dX12_text_212 : decode cX12_text 212 = .ok (.ireturn, 1) := by decide +kernel
def B_M_text_128 (k91 : Int32 → CS → Option (Int32 × CS)) (x1 : Int32) (x3 : Int32) (z1 : Int32) (σ : CS) : Option (Int32 × CS) := bnd (f_M_wrong z1 (σ.1 23) σ) (fun _ σ132 => k91 x3 σ132)
set_option maxHeartbeats 4000000 in
set_option maxRecDepth 100000 in
theorem w_M_text_128 (C : Cx g p s m args meth c A 4 cX12_text yX12_text.cls) (hr : meth.sig.returnType = (some .int))  {res : Int32 × CS}  (x1 : Int32) (x3 : Int32) (z1 : Int32) {k91 : Int32 → CS → Option (Int32 × CS)} (hk91 : ∀ (x3 : Int32) (σ : CS), k91 x3 σ = some res → NMI g p l e s m args below meth c A 1002 40043 4 am Rr res σ [(0, .ref (am 112)), (1, .int x1), (3, .int x3)] 91 []) (σ : CS) (h : B_M_text_128 k91 x1 x3 z1 σ = some res) : NMI g p l e s m args below meth c A 1002 40043 4 am Rr res σ [(0, .ref (am 112)), (1, .int x1), (3, .int x3)] 128 [.int z1, .ref (am 112)] := by
  unfold B_M_text_128 at h
  refine nw_aload_n C dX12_text_128 rfl 0 rfl ?_
  refine nw_get (v := .int (σ.1 23)) C in_X12 0 ml_O rfl 23 (by decide) tw_1596 rfl mf_23 dX12_text_129 ?_
  refine nm_callVV (q0 := 0) (As := [.int z1, .int (σ.1 23)]) (rest := []) C h (fun _ _ e => c_M_wrong e) tw_2050 kv_X12_wrong ml_O rfl ⟨Nat.le_of_ble_eq_true rfl, Nat.le_of_ble_eq_true rfl⟩ rfl dX12_text_132 rfl (Nat.le_of_ble_eq_true rfl) (fun r132 σ132 h => ?_)
  refine nw_goto (tgt := 91) C dX12_text_135 (by decide) ?_
  exact nw_lv (lv' := [(0, .ref (am 112)), (1, .int x1), (3, .int x3)]) [0, 1, 2] rfl (hk91 x3 _ h)
def L_M_text_91 (k161 : Int32 → Int32 → CS → Option (Int32 × CS)) (x1 : Int32) : Nat → Int32 → CS → Option (Int32 × CS)
  | 0, _, _ => none
  | n + 1, x3, σ => if (σ.1 24) = 0 then if (σ.1 22) ≤ (σ.1 23) then k161 x1 x3 σ else if x3 = 12 then bnd (f_M_clauseHere σ) (fun r117 σ117 => if r117 < 0 then B_M_text_128 (L_M_text_91 k161 x1 n) x1 x3 1 σ117 else B_M_text_128 (L_M_text_91 k161 x1 n) x1 x3 3 σ117) else bnd (f_M_clause ((12 * (σ.1 21)) + x3) σ) (fun _ σ148 => bnd (f_M_blanks σ148) (fun _ σ155 => (L_M_text_91 k161 x1 n) (x3 + 1) σ155)) else k161 x1 x3 σ
set_option maxHeartbeats 4000000 in
set_option maxRecDepth 100000 in
theorem w_M_text_91 (C : Cx g p s m args meth c A 4 cX12_text yX12_text.cls) (hr : meth.sig.returnType = (some .int))  {res : Int32 × CS}  (x1 : Int32) {k161 : Int32 → Int32 → CS → Option (Int32 × CS)} (hk161 : ∀ (x1 : Int32) (x3 : Int32) (σ : CS), k161 x1 x3 σ = some res → NMI g p l e s m args below meth c A 1002 40043 4 am Rr res σ [(0, .ref (am 112)), (1, .int x1), (3, .int x3)] 161 []) : ∀ (n : Nat) (x3 : Int32) (σ : CS), L_M_text_91 k161 x1 n x3 σ = some res → NMI g p l e s m args below meth c A 1002 40043 4 am Rr res σ [(0, .ref (am 112)), (1, .int x1), (3, .int x3)] 91 [] := by
  intro n
  induction n with
  | zero =>
    intro x3 σ h
    exact absurd (show (none : Option (Int32 × CS)) = some res from h) (by intro h9; cases h9)
  | succ n ih =>
    intro x3 σ h
    rw [L_M_text_91] at h
    refine nw_aload_n C dX12_text_91 rfl 0 rfl ?_
    refine nw_get (v := .int (σ.1 24)) C in_X12 0 ml_O rfl 24 (by decide) tw_1597 rfl mf_24 dX12_text_92 ?_
    refine nw_if_ne (tgt := 161) C dX12_text_95 (by decide) h (fun _ h => ?_) (fun _ h => ?_)
    · refine nw_aload_n C dX12_text_98 rfl 0 rfl ?_
      refine nw_get (v := .int (σ.1 23)) C in_X12 0 ml_O rfl 23 (by decide) tw_1596 rfl mf_23 dX12_text_99 ?_
      refine nw_aload_n C dX12_text_102 rfl 0 rfl ?_
      refine nw_get (v := .int (σ.1 22)) C in_X12 0 ml_O rfl 22 (by decide) tw_1595 rfl mf_22 dX12_text_103 ?_
      refine nw_icmp_ge (tgt := 161) C dX12_text_106 (by decide) h (fun _ h => ?_) (fun _ h => ?_)
      · exact nw_lv (lv' := [(0, .ref (am 112)), (1, .int x1), (3, .int x3)]) [0, 1, 2] rfl (hk161 x1 x3 _ h)
      · refine nw_iload_n C dX12_text_109 rfl 2 rfl ?_
        refine nw_bipush (v := 12) C dX12_text_110 (by decide) ?_
        refine nw_icmp_ne (tgt := 138) C dX12_text_112 (by decide) h (fun _ h => ?_) (fun _ h => ?_)
        · refine nw_aload_n C dX12_text_115 rfl 0 rfl ?_
          refine nw_aload_n C dX12_text_116 rfl 0 rfl ?_
          refine nm_callVI (q0 := 0) (As := []) (rest := [.ref (am 112)]) C h (fun _ _ e => c_M_clauseHere e) tw_2029 kv_X12_clauseHere ml_O rfl ⟨Nat.le_of_ble_eq_true rfl, Nat.le_of_ble_eq_true rfl⟩ rfl dX12_text_117 rfl (Nat.le_of_ble_eq_true rfl) (fun r117 σ117 h => ?_)
          refine nw_if_lt (tgt := 127) C dX12_text_120 (by decide) h (fun _ h => ?_) (fun _ h => ?_)
          · refine nw_iconst (v := 1) C dX12_text_127 (by decide) ?_
            exact nw_lv (lv' := [(0, .ref (am 112)), (1, .int x1), (3, .int x3)]) [0, 1, 2] rfl (w_M_text_128 C hr x1 x3 1 ih _ h)
          · refine nw_iconst (v := 3) C dX12_text_123 (by decide) ?_
            refine nw_goto (tgt := 128) C dX12_text_124 (by decide) ?_
            exact nw_lv (lv' := [(0, .ref (am 112)), (1, .int x1), (3, .int x3)]) [0, 1, 2] rfl (w_M_text_128 C hr x1 x3 3 ih _ h)
        · refine nw_aload_n C dX12_text_138 rfl 0 rfl ?_
          refine nw_bipush (v := 12) C dX12_text_139 (by decide) ?_
          refine nw_aload_n C dX12_text_141 rfl 0 rfl ?_
          refine nw_get (v := .int (σ.1 21)) C in_X12 0 ml_O rfl 21 (by decide) tw_1594 rfl mf_21 dX12_text_142 ?_
          refine nw_imul C dX12_text_145 ?_
          refine nw_iload_n C dX12_text_146 rfl 2 rfl ?_
          refine nw_iadd C dX12_text_147 ?_
          refine nm_callVV (q0 := 0) (As := [.int ((12 * (σ.1 21)) + x3)]) (rest := []) C h (fun _ _ e => c_M_clause e) tw_2054 kv_X12_clause ml_O rfl ⟨Nat.le_of_ble_eq_true rfl, Nat.le_of_ble_eq_true rfl⟩ rfl dX12_text_148 rfl (Nat.le_of_ble_eq_true rfl) (fun r148 σ148 h => ?_)
          refine nw_iinc (lv' := [(3, .int (x3 + 1)), (0, .ref (am 112)), (1, .int x1)]) C (x3 + 1) dX12_text_151 2 rfl rfl (by decide) rfl ?_
          refine nw_aload_n C dX12_text_154 rfl 1 rfl ?_
          refine nm_callVV (q0 := 0) (As := []) (rest := []) C h (fun _ _ e => c_M_blanks e) tw_2021 kv_X12_blanks ml_O rfl ⟨Nat.le_of_ble_eq_true rfl, Nat.le_of_ble_eq_true rfl⟩ rfl dX12_text_155 rfl (Nat.le_of_ble_eq_true rfl) (fun r155 σ155 h => ?_)
          refine nw_goto (tgt := 91) C dX12_text_158 (by decide) ?_
          exact nw_lv (lv' := [(0, .ref (am 112)), (1, .int x1), (3, .int (x3 + 1))]) [1, 2, 0] rfl (ih (x3 + 1) _ h)
    · exact nw_lv (lv' := [(0, .ref (am 112)), (1, .int x1), (3, .int x3)]) [0, 1, 2] rfl (hk161 x1 x3 _ h)
def B_M_text_161   (x1 : Int32) (x3 : Int32) (σ : CS) : Option (Int32 × CS) := if (σ.1 24) ≤ 0 then gix (σ.1 21) 10 (gix (σ.1 21) 10 (some ((((σ.1 21) + 1) - 1), (sF (wr (wr σ 28 (σ.1 21) x1) 29 (σ.1 21) x3) 21 ((σ.1 21) + 1))))) else some (((σ.1 24) - 10), σ)
set_option maxHeartbeats 4000000 in
set_option maxRecDepth 100000 in
theorem w_M_text_161 (C : Cx g p s m args meth c A 4 cX12_text yX12_text.cls) (hr : meth.sig.returnType = (some .int))  {res : Int32 × CS}   (x1 : Int32) (x3 : Int32)  (σ : CS) (h : B_M_text_161 x1 x3 σ = some res) : NMI g p l e s m args below meth c A 1002 40043 4 am Rr res σ [(0, .ref (am 112)), (1, .int x1), (3, .int x3)] 161 [] := by
  unfold B_M_text_161 at h
  refine nw_aload_n C dX12_text_161 rfl 0 rfl ?_
  refine nw_get (v := .int (σ.1 24)) C in_X12 0 ml_O rfl 24 (by decide) tw_1597 rfl mf_24 dX12_text_162 ?_
  refine nw_if_le (tgt := 176) C dX12_text_165 (by decide) h (fun _ h => ?_) (fun _ h => ?_)
  · refine nw_aload_n C dX12_text_176 rfl 0 rfl ?_
    refine nw_get (v := .ref (am 28)) C in_X12 0 ml_O rfl 28 (by decide) tw_1601 rfl mf_28 dX12_text_177 ?_
    refine nw_aload_n C dX12_text_180 rfl 0 rfl ?_
    refine nw_get (v := .int (σ.1 21)) C in_X12 0 ml_O rfl 21 (by decide) tw_1594 rfl mf_21 dX12_text_181 ?_
    refine nw_iload_n C dX12_text_184 rfl 1 rfl ?_
    refine nw_iast C 12 ml_28 dX12_text_185 h ms_28 (fun h => ?_)
    refine nw_aload_n C dX12_text_186 rfl 0 rfl ?_
    refine nw_get (v := .ref (am 29)) C in_X12 0 ml_O rfl 29 (by decide) tw_1602 rfl mf_29 dX12_text_187 ?_
    refine nw_aload_n C dX12_text_190 rfl 0 rfl ?_
    refine nw_get (v := .int (σ.1 21)) C in_X12 0 ml_O rfl 21 (by decide) tw_1594 rfl rfl dX12_text_191 ?_
    refine nw_iload_n C dX12_text_194 rfl 2 rfl ?_
    refine nw_iast C 13 ml_29 dX12_text_195 h ms_29 (fun h => ?_)
    refine nw_aload_n C dX12_text_196 rfl 0 rfl ?_
    refine nw_dup C dX12_text_197 rfl ?_
    refine nw_get (v := .int (σ.1 21)) C in_X12 0 ml_O rfl 21 (by decide) tw_1594 rfl rfl dX12_text_198 ?_
    refine nw_iconst (v := 1) C dX12_text_201 (by decide) ?_
    refine nw_iadd C dX12_text_202 ?_
    refine nw_put (ty := .int) C in_X12 0 ml_O rfl 21 (by decide) tyX12 tyX12_ok nmX12 tw_1594 rfl rfl (by decide +kernel) rfl rfl (Nat.le_of_ble_eq_true rfl) dX12_text_203 ms_21 ?_
    refine nw_aload_n C dX12_text_206 rfl 0 rfl ?_
    refine nw_get (v := .int ((σ.1 21) + 1)) C in_X12 0 ml_O rfl 21 (by decide) tw_1594 rfl rfl dX12_text_207 ?_
    refine nw_iconst (v := 1) C dX12_text_210 (by decide) ?_
    refine nw_isub C dX12_text_211 ?_
    exact nm_iret C hr dX12_text_212 h
  · refine nw_aload_n C dX12_text_168 rfl 0 rfl ?_
    refine nw_get (v := .int (σ.1 24)) C in_X12 0 ml_O rfl 24 (by decide) tw_1597 rfl mf_24 dX12_text_169 ?_
    refine nw_bipush (v := 10) C dX12_text_172 (by decide) ?_
    refine nw_isub C dX12_text_174 ?_
    exact nm_iret C hr dX12_text_175 h
def B_M_text_30   (x1 : Int32) (x2 : Int32) (z1 : Int32) (σ : CS) : Option (Int32 × CS) := bnd (f_M_bad z1 1 σ) (fun r31 σ31 => if r31 = 0 then if (σ31.1 21) = 10 then some ((-1), (sF (sF σ31 22 x2) 7 0)) else bnd (f_M_blanks (sF (sF (sF (sF (sF (sF (sF σ31 22 x2) 7 0) 23 0) 24 0) 25 (-1)) 26 0) 27 0)) (fun _ σ88 => L_M_text_91 (B_M_text_161) x1 FU 0 σ88) else some (0, σ31))
set_option maxHeartbeats 4000000 in
set_option maxRecDepth 100000 in
theorem w_M_text_30 (C : Cx g p s m args meth c A 4 cX12_text yX12_text.cls) (hr : meth.sig.returnType = (some .int))  {res : Int32 × CS}   (x1 : Int32) (x2 : Int32) (z1 : Int32)  (σ : CS) (h : B_M_text_30 x1 x2 z1 σ = some res) : NMI g p l e s m args below meth c A 1002 40043 4 am Rr res σ [(0, .ref (am 112)), (1, .int x1), (2, .int x2)] 30 [.int z1, .ref (am 112)] := by
  unfold B_M_text_30 at h
  refine nw_iconst (v := 1) C dX12_text_30 (by decide) ?_
  refine nm_callVI (q0 := 0) (As := [.int z1, .int 1]) (rest := []) C h (fun _ _ e => c_M_bad e) tw_1924 kv_X12_bad ml_O rfl ⟨Nat.le_of_ble_eq_true rfl, Nat.le_of_ble_eq_true rfl⟩ rfl dX12_text_31 rfl (Nat.le_of_ble_eq_true rfl) (fun r31 σ31 h => ?_)
  refine nw_if_eq (tgt := 39) C dX12_text_34 (by decide) h (fun _ h => ?_) (fun _ h => ?_)
  · refine nw_aload_n C dX12_text_39 rfl 0 rfl ?_
    refine nw_iload_n C dX12_text_40 rfl 2 rfl ?_
    refine nw_put (ty := .int) C in_X12 0 ml_O rfl 22 (by decide) tyX12 tyX12_ok nmX12 tw_1595 rfl rfl (by decide +kernel) rfl rfl (Nat.le_of_ble_eq_true rfl) dX12_text_41 ms_22 ?_
    refine nw_aload_n C dX12_text_44 rfl 0 rfl ?_
    refine nw_iconst (v := 0) C dX12_text_45 (by decide) ?_
    refine nw_put (ty := .int) C in_X12 0 ml_O rfl 7 (by decide) tyX12 tyX12_ok nmX12 tw_1580 rfl rfl (by decide +kernel) rfl rfl (Nat.le_of_ble_eq_true rfl) dX12_text_46 ms_7 ?_
    refine nw_aload_n C dX12_text_49 rfl 0 rfl ?_
    refine nw_get (v := .int (σ31.1 21)) C in_X12 0 ml_O rfl 21 (by decide) tw_1594 rfl rfl dX12_text_50 ?_
    refine nw_bipush (v := 10) C dX12_text_53 (by decide) ?_
    refine nw_icmp_ne (tgt := 60) C dX12_text_55 (by decide) h (fun _ h => ?_) (fun _ h => ?_)
    · refine nw_iconst (v := (-1)) C dX12_text_58 (by decide) ?_
      exact nm_iret C hr dX12_text_59 h
    · refine nw_aload_n C dX12_text_60 rfl 0 rfl ?_
      refine nw_iconst (v := 0) C dX12_text_61 (by decide) ?_
      refine nw_put (ty := .int) C in_X12 0 ml_O rfl 23 (by decide) tyX12 tyX12_ok nmX12 tw_1596 rfl rfl (by decide +kernel) rfl rfl (Nat.le_of_ble_eq_true rfl) dX12_text_62 ms_23 ?_
      refine nw_aload_n C dX12_text_65 rfl 0 rfl ?_
      refine nw_iconst (v := 0) C dX12_text_66 (by decide) ?_
      refine nw_put (ty := .int) C in_X12 0 ml_O rfl 24 (by decide) tyX12 tyX12_ok nmX12 tw_1597 rfl rfl (by decide +kernel) rfl rfl (Nat.le_of_ble_eq_true rfl) dX12_text_67 ms_24 ?_
      refine nw_aload_n C dX12_text_70 rfl 0 rfl ?_
      refine nw_iconst (v := (-1)) C dX12_text_71 (by decide) ?_
      refine nw_put (ty := .int) C in_X12 0 ml_O rfl 25 (by decide) tyX12 tyX12_ok nmX12 tw_1598 rfl rfl (by decide +kernel) rfl rfl (Nat.le_of_ble_eq_true rfl) dX12_text_72 ms_25 ?_
      refine nw_aload_n C dX12_text_75 rfl 0 rfl ?_
      refine nw_iconst (v := 0) C dX12_text_76 (by decide) ?_
      refine nw_put (ty := .int) C in_X12 0 ml_O rfl 26 (by decide) tyX12 tyX12_ok nmX12 tw_1599 rfl rfl (by decide +kernel) rfl rfl (Nat.le_of_ble_eq_true rfl) dX12_text_77 ms_26 ?_
      refine nw_aload_n C dX12_text_80 rfl 0 rfl ?_
      refine nw_iconst (v := 0) C dX12_text_81 (by decide) ?_
      refine nw_put (ty := .int) C in_X12 0 ml_O rfl 27 (by decide) tyX12 tyX12_ok nmX12 tw_1600 rfl rfl (by decide +kernel) rfl rfl (Nat.le_of_ble_eq_true rfl) dX12_text_82 ms_27 ?_
      refine nw_iconst (v := 0) C dX12_text_85 (by decide) ?_
      refine nw_istore_n (lv' := [(3, .int 0), (0, .ref (am 112)), (1, .int x1), (2, .int x2)]) C dX12_text_86 rfl (by decide) rfl ?_
      refine nw_aload_n C dX12_text_87 rfl 1 rfl ?_
      refine nm_callVV (q0 := 0) (As := []) (rest := []) C h (fun _ _ e => c_M_blanks e) tw_2021 kv_X12_blanks ml_O rfl ⟨Nat.le_of_ble_eq_true rfl, Nat.le_of_ble_eq_true rfl⟩ rfl dX12_text_88 rfl (Nat.le_of_ble_eq_true rfl) (fun r88 σ88 h => ?_)
      exact nw_lv (lv' := [(0, .ref (am 112)), (1, .int x1), (3, .int 0)]) [1, 2, 0] rfl (w_M_text_91 C hr x1 (fun x1_ x3_ σ_ h_ => w_M_text_161 C hr x1_ x3_ σ_ h_) FU 0 _ h)
  · refine nw_iconst (v := 0) C dX12_text_37 (by decide) ?_
    exact nm_iret C hr dX12_text_38 h
def f_M_text (p0 : Int32) (p1 : Int32) (σ : CS) : Option (Int32 × CS) := bnd (f_M_isDay p0 (sF σ 0 0)) (fun r7 σ7 => if r7 = 0 then B_M_text_30 p0 p1 1 σ7 else if p1 < 0 then B_M_text_30 p0 p1 1 σ7 else if p1 ≤ (σ7.1 7) then B_M_text_30 p0 p1 0 σ7 else B_M_text_30 p0 p1 1 σ7)
set_option maxHeartbeats 4000000 in
set_option maxRecDepth 100000 in
theorem c_M_text {l : Launch} {g : EG} {am : Nat → Nat} {Rr : va_W} {σ σ' : CS} {r : Int32} {p0 : Int32} {p1 : Int32}  (h : f_M_text p0 p1 σ = some (r, σ')) : CmI l g yX12_text (.code yX12_text cX12_text 4 (some .int)) 1002 40043 am Rr σ [.ref (am 112), .int p0, .int p1] r σ' := by
  refine Ct.of rfl (by decide) (Nat.le_of_ble_eq_true rfl) ?_
  intro p e s m args below meth c A C hr
  show NMI g p l e s m args below meth c A 1002 40043 4 am Rr (r, σ') σ [(0, .ref (am 112)), (1, .int p0), (2, .int p1)] 0 []
  unfold f_M_text at h
  refine nw_aload_n C dX12_text_0 rfl 0 rfl ?_
  refine nw_iconst (v := 0) C dX12_text_1 (by decide) ?_
  refine nw_put (ty := .int) C in_X12 0 ml_O rfl 0 (by decide) tyX12 tyX12_ok nmX12 tw_1573 rfl rfl (by decide +kernel) rfl rfl (Nat.le_of_ble_eq_true rfl) dX12_text_2 ms_0 ?_
  refine nw_aload_n C dX12_text_5 rfl 0 rfl ?_
  refine nw_iload_n C dX12_text_6 rfl 1 rfl ?_
  refine nm_callSI  (As := [.int p0]) (rest := [.ref (am 112)]) C h (fun _ _ e => c_M_isDay e) tw_1936 ks_X12_isDay ⟨Nat.le_of_ble_eq_true rfl, Nat.le_of_ble_eq_true rfl⟩ rfl dX12_text_7 rfl (Nat.le_of_ble_eq_true rfl) (fun r7 σ7 h => ?_)
  refine nw_if_eq (tgt := 25) C dX12_text_10 (by decide) h (fun _ h => ?_) (fun _ h => ?_)
  · refine nw_iconst (v := 1) C dX12_text_25 (by decide) ?_
    refine nw_goto (tgt := 30) C dX12_text_26 (by decide) ?_
    exact nw_lv (lv' := [(0, .ref (am 112)), (1, .int p0), (2, .int p1)]) [0, 1, 2] rfl (w_M_text_30 C hr p0 p1 1 _ h)
  · refine nw_iload_n C dX12_text_13 rfl 2 rfl ?_
    refine nw_if_lt (tgt := 25) C dX12_text_14 (by decide) h (fun _ h => ?_) (fun _ h => ?_)
    · refine nw_iconst (v := 1) C dX12_text_25 (by decide) ?_
      refine nw_goto (tgt := 30) C dX12_text_26 (by decide) ?_
      exact nw_lv (lv' := [(0, .ref (am 112)), (1, .int p0), (2, .int p1)]) [0, 1, 2] rfl (w_M_text_30 C hr p0 p1 1 _ h)
    · refine nw_iload_n C dX12_text_17 rfl 2 rfl ?_
      refine nw_aload_n C dX12_text_18 rfl 0 rfl ?_
      refine nw_get (v := .int (σ7.1 7)) C in_X12 0 ml_O rfl 7 (by decide) tw_1580 rfl mf_7 dX12_text_19 ?_
      refine nw_icmp_le (tgt := 29) C dX12_text_22 (by decide) h (fun _ h => ?_) (fun _ h => ?_)
      · refine nw_iconst (v := 0) C dX12_text_29 (by decide) ?_
        exact nw_lv (lv' := [(0, .ref (am 112)), (1, .int p0), (2, .int p1)]) [0, 1, 2] rfl (w_M_text_30 C hr p0 p1 0 _ h)
      · refine nw_iconst (v := 1) C dX12_text_25 (by decide) ?_
        refine nw_goto (tgt := 30) C dX12_text_26 (by decide) ?_
        exact nw_lv (lv' := [(0, .ref (am 112)), (1, .int p0), (2, .int p1)]) [0, 1, 2] rfl (w_M_text_30 C hr p0 p1 1 _ h)
end
