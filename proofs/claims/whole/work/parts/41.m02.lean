section
variable {g : EG} {p : Program} {l : Launch} {e : Env} {s : State} {m : MethodId} {args : Array Value} {below : List Frame} {meth : Method} {c : Code} {A : Nat → Prop} {ad am ta : Nat → Nat} {Rr : va_W} {φ0 : Nat}
theorem dX12_strip_0 : decode cX12_strip 0 = .ok (.aload_n 0, 1) := by decide +kernel
theorem dX12_strip_1 : decode cX12_strip 1 = .ok (.iconst 0, 1) := by decide +kernel
theorem dX12_strip_2 : decode cX12_strip 2 = .ok (.putfield 253, 3) := by decide +kernel
theorem dX12_strip_5 : decode cX12_strip 5 = .ok (.aload_n 0, 1) := by decide +kernel
theorem dX12_strip_6 : decode cX12_strip 6 = .ok (.iload_n 1, 1) := by decide +kernel
theorem dX12_strip_7 : decode cX12_strip 7 = .ok (.iconst 0, 1) := by decide +kernel
theorem dX12_strip_8 : decode cX12_strip 8 = .ok (.bipush 100, 2) := by decide +kernel
theorem dX12_strip_10 : decode cX12_strip 10 = .ok (.invokestatic 257, 3) := by decide +kernel
theorem dX12_strip_13 : decode cX12_strip 13 = .ok (.ifCond .ne 7, 3) := by decide +kernel
theorem dX12_strip_16 : decode cX12_strip 16 = .ok (.iconst 1, 1) := by decide +kernel
theorem dX12_strip_17 : decode cX12_strip 17 = .ok (.goto 4, 3) := by decide +kernel
theorem dX12_strip_20 : decode cX12_strip 20 = .ok (.iconst 0, 1) := by decide +kernel
theorem dX12_strip_21 : decode cX12_strip 21 = .ok (.iconst 1, 1) := by decide +kernel
theorem dX12_strip_22 : decode cX12_strip 22 = .ok (.invokevirtual 265, 3) := by decide +kernel
theorem dX12_strip_25 : decode cX12_strip 25 = .ok (.ifCond .eq 5, 3) := by decide +kernel
theorem dX12_strip_28 : decode cX12_strip 28 = .ok (.iconst 0, 1) := by decide +kernel
theorem dX12_strip_29 : decode cX12_strip 29 = .ok (.ireturn, 1) := by decide +kernel
theorem dX12_strip_30 : decode cX12_strip 30 = .ok (.aload_n 0, 1) := by decide +kernel
theorem dX12_strip_31 : decode cX12_strip 31 = .ok (.getfield 309, 3) := by decide +kernel
theorem dX12_strip_34 : decode cX12_strip 34 = .ok (.istore_n 2, 1) := by decide +kernel
theorem dX12_strip_35 : decode cX12_strip 35 = .ok (.aload_n 0, 1) := by decide +kernel
theorem dX12_strip_36 : decode cX12_strip 36 = .ok (.iload_n 1, 1) := by decide +kernel
theorem dX12_strip_37 : decode cX12_strip 37 = .ok (.putfield 309, 3) := by decide +kernel
theorem dX12_strip_40 : decode cX12_strip 40 = .ok (.iload_n 2, 1) := by decide +kernel
theorem dX12_strip_41 : decode cX12_strip 41 = .ok (.ireturn, 1) := by decide +kernel
def B_M_strip_21   (x1 : Int32) (z1 : Int32) (σ : CS) : Option (Int32 × CS) := bnd (f_M_bad z1 1 σ) (fun r22 σ22 => if r22 = 0 then some ((σ22.1 11), (sF σ22 11 x1)) else some (0, σ22))
set_option maxHeartbeats 4000000 in
set_option maxRecDepth 100000 in
theorem w_M_strip_21 (C : Cx g p s m args meth c A 3 cX12_strip yX12_strip.cls) (hr : meth.sig.returnType = (some .int))  {res : Int32 × CS}   (x1 : Int32) (z1 : Int32)  (σ : CS) (h : B_M_strip_21 x1 z1 σ = some res) : NMI g p l e s m args below meth c A 1 22 3 am Rr res σ [(0, .ref (am 112)), (1, .int x1)] 21 [.int z1, .ref (am 112)] := by
  unfold B_M_strip_21 at h
  refine nw_iconst (v := 1) C dX12_strip_21 (by decide) ?_
  refine nm_callVI (q0 := 0) (As := [.int z1, .int 1]) (rest := []) C h (fun _ _ e => c_M_bad e) tw_1924 kv_X12_bad ml_O rfl ⟨Nat.le_of_ble_eq_true rfl, Nat.le_of_ble_eq_true rfl⟩ rfl dX12_strip_22 rfl (Nat.le_of_ble_eq_true rfl) (fun r22 σ22 h => ?_)
  refine nw_if_eq (tgt := 30) C dX12_strip_25 (by decide) h (fun _ h => ?_) (fun _ h => ?_)
  · refine nw_aload_n C dX12_strip_30 rfl 0 rfl ?_
    refine nw_get (v := .int (σ22.1 11)) C in_X12 0 ml_O rfl 11 (by decide) tw_1584 rfl mf_11 dX12_strip_31 ?_
    refine nw_istore_n (lv' := [(2, .int (σ22.1 11)), (0, .ref (am 112)), (1, .int x1)]) C dX12_strip_34 rfl (by decide) rfl ?_
    refine nw_aload_n C dX12_strip_35 rfl 1 rfl ?_
    refine nw_iload_n C dX12_strip_36 rfl 2 rfl ?_
    refine nw_put (ty := .int) C in_X12 0 ml_O rfl 11 (by decide) tyX12 tyX12_ok nmX12 tw_1584 rfl rfl (by decide +kernel) rfl rfl (Nat.le_of_ble_eq_true rfl) dX12_strip_37 ms_11 ?_
    refine nw_iload_n C dX12_strip_40 rfl 0 rfl ?_
    exact nm_iret C hr dX12_strip_41 h
  · refine nw_iconst (v := 0) C dX12_strip_28 (by decide) ?_
    exact nm_iret C hr dX12_strip_29 h
def f_M_strip (p0 : Int32) (σ : CS) : Option (Int32 × CS) := bnd (f_M_in p0 0 100 (sF σ 0 0)) (fun r10 σ10 => if r10 = 0 then B_M_strip_21 p0 1 σ10 else B_M_strip_21 p0 0 σ10)
set_option maxHeartbeats 4000000 in
set_option maxRecDepth 100000 in
theorem c_M_strip {l : Launch} {g : EG} {am : Nat → Nat} {Rr : va_W} {σ σ' : CS} {r : Int32} {p0 : Int32}  (h : f_M_strip p0 σ = some (r, σ')) : CmI l g yX12_strip (.code yX12_strip cX12_strip 3 (some .int)) 1 22 am Rr σ [.ref (am 112), .int p0] r σ' := by
  refine Ct.of rfl (by decide) (Nat.le_of_ble_eq_true rfl) ?_
  intro p e s m args below meth c A C hr
  show NMI g p l e s m args below meth c A 1 22 3 am Rr (r, σ') σ [(0, .ref (am 112)), (1, .int p0)] 0 []
  unfold f_M_strip at h
  refine nw_aload_n C dX12_strip_0 rfl 0 rfl ?_
  refine nw_iconst (v := 0) C dX12_strip_1 (by decide) ?_
  refine nw_put (ty := .int) C in_X12 0 ml_O rfl 0 (by decide) tyX12 tyX12_ok nmX12 tw_1573 rfl rfl (by decide +kernel) rfl rfl (Nat.le_of_ble_eq_true rfl) dX12_strip_2 ms_0 ?_
  refine nw_aload_n C dX12_strip_5 rfl 0 rfl ?_
  refine nw_iload_n C dX12_strip_6 rfl 1 rfl ?_
  refine nw_iconst (v := 0) C dX12_strip_7 (by decide) ?_
  refine nw_bipush (v := 100) C dX12_strip_8 (by decide) ?_
  refine nm_callSI  (As := [.int p0, .int 0, .int 100]) (rest := [.ref (am 112)]) C h (fun _ _ e => c_M_in e) tw_1918 ks_X12_in ⟨Nat.le_of_ble_eq_true rfl, Nat.le_of_ble_eq_true rfl⟩ rfl dX12_strip_10 rfl (Nat.le_of_ble_eq_true rfl) (fun r10 σ10 h => ?_)
  refine nw_if_ne (tgt := 20) C dX12_strip_13 (by decide) h (fun _ h => ?_) (fun _ h => ?_)
  · refine nw_iconst (v := 1) C dX12_strip_16 (by decide) ?_
    refine nw_goto (tgt := 21) C dX12_strip_17 (by decide) ?_
    exact nw_lv (lv' := [(0, .ref (am 112)), (1, .int p0)]) [0, 1] rfl (w_M_strip_21 C hr p0 1 _ h)
  · refine nw_iconst (v := 0) C dX12_strip_20 (by decide) ?_
    exact nw_lv (lv' := [(0, .ref (am 112)), (1, .int p0)]) [0, 1] rfl (w_M_strip_21 C hr p0 0 _ h)
theorem dX12_boundsOf_0 : decode cX12_boundsOf 0 = .ok (.iconst (-1), 1) := by decide +kernel
theorem dX12_boundsOf_1 : decode cX12_boundsOf 1 = .ok (.istore_n 2, 1) := by decide +kernel
theorem dX12_boundsOf_2 : decode cX12_boundsOf 2 = .ok (.iconst 0, 1) := by decide +kernel
theorem dX12_boundsOf_3 : decode cX12_boundsOf 3 = .ok (.istore_n 3, 1) := by decide +kernel
theorem dX12_boundsOf_4 : decode cX12_boundsOf 4 = .ok (.iload_n 3, 1) := by decide +kernel
theorem dX12_boundsOf_5 : decode cX12_boundsOf 5 = .ok (.aload_n 0, 1) := by decide +kernel
theorem dX12_boundsOf_6 : decode cX12_boundsOf 6 = .ok (.getfield 302, 3) := by decide +kernel
theorem dX12_boundsOf_9 : decode cX12_boundsOf 9 = .ok (.if_icmp .ge 63, 3) := by decide +kernel
theorem dX12_boundsOf_12 : decode cX12_boundsOf 12 = .ok (.aload_n 0, 1) := by decide +kernel
theorem dX12_boundsOf_13 : decode cX12_boundsOf 13 = .ok (.getfield 32, 3) := by decide +kernel
theorem dX12_boundsOf_16 : decode cX12_boundsOf 16 = .ok (.iload_n 3, 1) := by decide +kernel
theorem dX12_boundsOf_17 : decode cX12_boundsOf 17 = .ok (.iaload, 1) := by decide +kernel
theorem dX12_boundsOf_18 : decode cX12_boundsOf 18 = .ok (.iload_n 1, 1) := by decide +kernel
theorem dX12_boundsOf_19 : decode cX12_boundsOf 19 = .ok (.if_icmp .gt 47, 3) := by decide +kernel
theorem dX12_boundsOf_22 : decode cX12_boundsOf 22 = .ok (.aload_n 0, 1) := by decide +kernel
theorem dX12_boundsOf_23 : decode cX12_boundsOf 23 = .ok (.getfield 35, 3) := by decide +kernel
theorem dX12_boundsOf_26 : decode cX12_boundsOf 26 = .ok (.iload_n 3, 1) := by decide +kernel
theorem dX12_boundsOf_27 : decode cX12_boundsOf 27 = .ok (.iaload, 1) := by decide +kernel
theorem dX12_boundsOf_28 : decode cX12_boundsOf 28 = .ok (.iconst (-1), 1) := by decide +kernel
theorem dX12_boundsOf_29 : decode cX12_boundsOf 29 = .ok (.if_icmp .eq 16, 3) := by decide +kernel
theorem dX12_boundsOf_32 : decode cX12_boundsOf 32 = .ok (.aload_n 0, 1) := by decide +kernel
theorem dX12_boundsOf_33 : decode cX12_boundsOf 33 = .ok (.getfield 35, 3) := by decide +kernel
theorem dX12_boundsOf_36 : decode cX12_boundsOf 36 = .ok (.iload_n 3, 1) := by decide +kernel
theorem dX12_boundsOf_37 : decode cX12_boundsOf 37 = .ok (.iaload, 1) := by decide +kernel
theorem dX12_boundsOf_38 : decode cX12_boundsOf 38 = .ok (.iload_n 1, 1) := by decide +kernel
theorem dX12_boundsOf_39 : decode cX12_boundsOf 39 = .ok (.if_icmp .gt 6, 3) := by decide +kernel
theorem dX12_boundsOf_42 : decode cX12_boundsOf 42 = .ok (.goto 24, 3) := by decide +kernel
theorem dX12_boundsOf_45 : decode cX12_boundsOf 45 = .ok (.iload_n 2, 1) := by decide +kernel
theorem dX12_boundsOf_46 : decode cX12_boundsOf 46 = .ok (.ifCond .lt 18, 3) := by decide +kernel
theorem dX12_boundsOf_49 : decode cX12_boundsOf 49 = .ok (.aload_n 0, 1) := by decide +kernel
theorem dX12_boundsOf_50 : decode cX12_boundsOf 50 = .ok (.getfield 32, 3) := by decide +kernel
theorem dX12_boundsOf_53 : decode cX12_boundsOf 53 = .ok (.iload_n 3, 1) := by decide +kernel
theorem dX12_boundsOf_54 : decode cX12_boundsOf 54 = .ok (.iaload, 1) := by decide +kernel
theorem dX12_boundsOf_55 : decode cX12_boundsOf 55 = .ok (.aload_n 0, 1) := by decide +kernel
theorem dX12_boundsOf_56 : decode cX12_boundsOf 56 = .ok (.getfield 32, 3) := by decide +kernel
theorem dX12_boundsOf_59 : decode cX12_boundsOf 59 = .ok (.iload_n 2, 1) := by decide +kernel
theorem dX12_boundsOf_60 : decode cX12_boundsOf 60 = .ok (.iaload, 1) := by decide +kernel
theorem dX12_boundsOf_61 : decode cX12_boundsOf 61 = .ok (.if_icmp .lt 5, 3) := by decide +kernel
theorem dX12_boundsOf_64 : decode cX12_boundsOf 64 = .ok (.iload_n 3, 1) := by decide +kernel
theorem dX12_boundsOf_65 : decode cX12_boundsOf 65 = .ok (.istore_n 2, 1) := by decide +kernel
theorem dX12_boundsOf_66 : decode cX12_boundsOf 66 = .ok (.iinc 3 1, 3) := by decide +kernel
theorem dX12_boundsOf_69 : decode cX12_boundsOf 69 = .ok (.goto (-65), 3) := by decide +kernel
theorem dX12_boundsOf_72 : decode cX12_boundsOf 72 = .ok (.iload_n 2, 1) := by decide +kernel
theorem dX12_boundsOf_73 : decode cX12_boundsOf 73 = .ok (.ireturn, 1) := by decide +kernel
def B_M_boundsOf_64 (k4 : Int32 → Int32 → CS → Option (Int32 × CS)) (x1 : Int32) (x3 : Int32) (σ : CS) : Option (Int32 × CS) := k4 x3 (x3 + 1) σ
set_option maxHeartbeats 4000000 in
set_option maxRecDepth 100000 in
theorem w_M_boundsOf_64 (C : Cx g p s m args meth c A 4 cX12_boundsOf yX12_boundsOf.cls) (hr : meth.sig.returnType = (some .int))  {res : Int32 × CS}  (x1 : Int32) (x3 : Int32) {k4 : Int32 → Int32 → CS → Option (Int32 × CS)} (hk4 : ∀ (x2 : Int32) (x3 : Int32) (σ : CS), k4 x2 x3 σ = some res → NMI g p l e s m args below meth c A 0 0 4 am Rr res σ [(0, .ref (am 112)), (1, .int x1), (2, .int x2), (3, .int x3)] 4 []) (σ : CS) (h : B_M_boundsOf_64 k4 x1 x3 σ = some res) : NMI g p l e s m args below meth c A 0 0 4 am Rr res σ [(0, .ref (am 112)), (1, .int x1), (3, .int x3)] 64 [] := by
  unfold B_M_boundsOf_64 at h
  refine nw_iload_n C dX12_boundsOf_64 rfl 2 rfl ?_
  refine nw_istore_n (lv' := [(2, .int x3), (0, .ref (am 112)), (1, .int x1), (3, .int x3)]) C dX12_boundsOf_65 rfl (by decide) rfl ?_
  refine nw_iinc (lv' := [(3, .int (x3 + 1)), (2, .int x3), (0, .ref (am 112)), (1, .int x1)]) C (x3 + 1) dX12_boundsOf_66 3 rfl rfl (by decide) rfl ?_
  refine nw_goto (tgt := 4) C dX12_boundsOf_69 (by decide) ?_
  exact nw_lv (lv' := [(0, .ref (am 112)), (1, .int x1), (2, .int x3), (3, .int (x3 + 1))]) [2, 3, 1, 0] rfl (hk4 x3 (x3 + 1) _ h)
def B_M_boundsOf_45 (k4 : Int32 → Int32 → CS → Option (Int32 × CS)) (x1 : Int32) (x2 : Int32) (x3 : Int32) (σ : CS) : Option (Int32 × CS) := if x2 < 0 then B_M_boundsOf_64 k4 x1 x3 σ else gix x3 12 (gix x2 12 (if (rd σ 14 x3) < (rd σ 14 x2) then k4 x2 (x3 + 1) σ else B_M_boundsOf_64 k4 x1 x3 σ))
set_option maxHeartbeats 4000000 in
set_option maxRecDepth 100000 in
theorem w_M_boundsOf_45 (C : Cx g p s m args meth c A 4 cX12_boundsOf yX12_boundsOf.cls) (hr : meth.sig.returnType = (some .int))  {res : Int32 × CS}  (x1 : Int32) (x2 : Int32) (x3 : Int32) {k4 : Int32 → Int32 → CS → Option (Int32 × CS)} (hk4 : ∀ (x2 : Int32) (x3 : Int32) (σ : CS), k4 x2 x3 σ = some res → NMI g p l e s m args below meth c A 0 0 4 am Rr res σ [(0, .ref (am 112)), (1, .int x1), (2, .int x2), (3, .int x3)] 4 []) (σ : CS) (h : B_M_boundsOf_45 k4 x1 x2 x3 σ = some res) : NMI g p l e s m args below meth c A 0 0 4 am Rr res σ [(0, .ref (am 112)), (1, .int x1), (2, .int x2), (3, .int x3)] 45 [] := by
  unfold B_M_boundsOf_45 at h
  refine nw_iload_n C dX12_boundsOf_45 rfl 2 rfl ?_
  refine nw_if_lt (tgt := 64) C dX12_boundsOf_46 (by decide) h (fun _ h => ?_) (fun _ h => ?_)
  · exact nw_lv (lv' := [(0, .ref (am 112)), (1, .int x1), (3, .int x3)]) [0, 1, 3] rfl (w_M_boundsOf_64 C hr x1 x3 hk4 _ h)
  · refine nw_aload_n C dX12_boundsOf_49 rfl 0 rfl ?_
    refine nw_get (v := .ref (am 14)) C in_X12 0 ml_O rfl 14 (by decide) tw_1587 rfl mf_14 dX12_boundsOf_50 ?_
    refine nw_iload_n C dX12_boundsOf_53 rfl 3 rfl ?_
    refine nw_iald C 8 ml_14 dX12_boundsOf_54 h (fun h => ?_)
    refine nw_aload_n C dX12_boundsOf_55 rfl 0 rfl ?_
    refine nw_get (v := .ref (am 14)) C in_X12 0 ml_O rfl 14 (by decide) tw_1587 rfl mf_14 dX12_boundsOf_56 ?_
    refine nw_iload_n C dX12_boundsOf_59 rfl 2 rfl ?_
    refine nw_iald C 8 ml_14 dX12_boundsOf_60 h (fun h => ?_)
    refine nw_icmp_lt (tgt := 66) C dX12_boundsOf_61 (by decide) h (fun _ h => ?_) (fun _ h => ?_)
    · refine nw_iinc (lv' := [(3, .int (x3 + 1)), (0, .ref (am 112)), (1, .int x1), (2, .int x2)]) C (x3 + 1) dX12_boundsOf_66 3 rfl rfl (by decide) rfl ?_
      refine nw_goto (tgt := 4) C dX12_boundsOf_69 (by decide) ?_
      exact nw_lv (lv' := [(0, .ref (am 112)), (1, .int x1), (2, .int x2), (3, .int (x3 + 1))]) [1, 2, 3, 0] rfl (hk4 x2 (x3 + 1) _ h)
    · exact nw_lv (lv' := [(0, .ref (am 112)), (1, .int x1), (3, .int x3)]) [0, 1, 3] rfl (w_M_boundsOf_64 C hr x1 x3 hk4 _ h)
def L_M_boundsOf_4  (x1 : Int32) : Nat → Int32 → Int32 → CS → Option (Int32 × CS)
  | 0, _, _, _ => none
  | n + 1, x2, x3, σ => if (σ.1 10) ≤ x3 then some (x2, σ) else gix x3 12 (if x1 < (rd σ 14 x3) then (L_M_boundsOf_4 x1 n) x2 (x3 + 1) σ else gix x3 12 (if (rd σ 15 x3) = (-1) then B_M_boundsOf_45 (L_M_boundsOf_4 x1 n) x1 x2 x3 σ else gix x3 12 (if x1 < (rd σ 15 x3) then B_M_boundsOf_45 (L_M_boundsOf_4 x1 n) x1 x2 x3 σ else (L_M_boundsOf_4 x1 n) x2 (x3 + 1) σ)))
set_option maxHeartbeats 4000000 in
set_option maxRecDepth 100000 in
theorem w_M_boundsOf_4 (C : Cx g p s m args meth c A 4 cX12_boundsOf yX12_boundsOf.cls) (hr : meth.sig.returnType = (some .int))  {res : Int32 × CS}  (x1 : Int32)  : ∀ (n : Nat) (x2 : Int32) (x3 : Int32) (σ : CS), L_M_boundsOf_4 x1 n x2 x3 σ = some res → NMI g p l e s m args below meth c A 0 0 4 am Rr res σ [(0, .ref (am 112)), (1, .int x1), (2, .int x2), (3, .int x3)] 4 [] := by
  intro n
  induction n with
  | zero =>
    intro x2 x3 σ h
    exact absurd (show (none : Option (Int32 × CS)) = some res from h) (by intro h9; cases h9)
  | succ n ih =>
    intro x2 x3 σ h
    rw [L_M_boundsOf_4] at h
    refine nw_iload_n C dX12_boundsOf_4 rfl 3 rfl ?_
    refine nw_aload_n C dX12_boundsOf_5 rfl 0 rfl ?_
    refine nw_get (v := .int (σ.1 10)) C in_X12 0 ml_O rfl 10 (by decide) tw_1583 rfl mf_10 dX12_boundsOf_6 ?_
    refine nw_icmp_ge (tgt := 72) C dX12_boundsOf_9 (by decide) h (fun _ h => ?_) (fun _ h => ?_)
    · refine nw_iload_n C dX12_boundsOf_72 rfl 2 rfl ?_
      exact nm_iret C hr dX12_boundsOf_73 h
    · refine nw_aload_n C dX12_boundsOf_12 rfl 0 rfl ?_
      refine nw_get (v := .ref (am 14)) C in_X12 0 ml_O rfl 14 (by decide) tw_1587 rfl mf_14 dX12_boundsOf_13 ?_
      refine nw_iload_n C dX12_boundsOf_16 rfl 3 rfl ?_
      refine nw_iald C 8 ml_14 dX12_boundsOf_17 h (fun h => ?_)
      refine nw_iload_n C dX12_boundsOf_18 rfl 1 rfl ?_
      refine nw_icmp_gt (tgt := 66) C dX12_boundsOf_19 (by decide) h (fun _ h => ?_) (fun _ h => ?_)
      · refine nw_iinc (lv' := [(3, .int (x3 + 1)), (0, .ref (am 112)), (1, .int x1), (2, .int x2)]) C (x3 + 1) dX12_boundsOf_66 3 rfl rfl (by decide) rfl ?_
        refine nw_goto (tgt := 4) C dX12_boundsOf_69 (by decide) ?_
        exact nw_lv (lv' := [(0, .ref (am 112)), (1, .int x1), (2, .int x2), (3, .int (x3 + 1))]) [1, 2, 3, 0] rfl (ih x2 (x3 + 1) _ h)
      · refine nw_aload_n C dX12_boundsOf_22 rfl 0 rfl ?_
        refine nw_get (v := .ref (am 15)) C in_X12 0 ml_O rfl 15 (by decide) tw_1588 rfl mf_15 dX12_boundsOf_23 ?_
        refine nw_iload_n C dX12_boundsOf_26 rfl 3 rfl ?_
        refine nw_iald C 9 ml_15 dX12_boundsOf_27 h (fun h => ?_)
        refine nw_iconst (v := (-1)) C dX12_boundsOf_28 (by decide) ?_
        refine nw_icmp_eq (tgt := 45) C dX12_boundsOf_29 (by decide) h (fun _ h => ?_) (fun _ h => ?_)
        · exact nw_lv (lv' := [(0, .ref (am 112)), (1, .int x1), (2, .int x2), (3, .int x3)]) [0, 1, 2, 3] rfl (w_M_boundsOf_45 C hr x1 x2 x3 ih _ h)
        · refine nw_aload_n C dX12_boundsOf_32 rfl 0 rfl ?_
          refine nw_get (v := .ref (am 15)) C in_X12 0 ml_O rfl 15 (by decide) tw_1588 rfl mf_15 dX12_boundsOf_33 ?_
          refine nw_iload_n C dX12_boundsOf_36 rfl 3 rfl ?_
          refine nw_iald C 9 ml_15 dX12_boundsOf_37 h (fun h => ?_)
          refine nw_iload_n C dX12_boundsOf_38 rfl 1 rfl ?_
          refine nw_icmp_gt (tgt := 45) C dX12_boundsOf_39 (by decide) h (fun _ h => ?_) (fun _ h => ?_)
          · exact nw_lv (lv' := [(0, .ref (am 112)), (1, .int x1), (2, .int x2), (3, .int x3)]) [0, 1, 2, 3] rfl (w_M_boundsOf_45 C hr x1 x2 x3 ih _ h)
          · refine nw_goto (tgt := 66) C dX12_boundsOf_42 (by decide) ?_
            refine nw_iinc (lv' := [(3, .int (x3 + 1)), (0, .ref (am 112)), (1, .int x1), (2, .int x2)]) C (x3 + 1) dX12_boundsOf_66 3 rfl rfl (by decide) rfl ?_
            refine nw_goto (tgt := 4) C dX12_boundsOf_69 (by decide) ?_
            exact nw_lv (lv' := [(0, .ref (am 112)), (1, .int x1), (2, .int x2), (3, .int (x3 + 1))]) [1, 2, 3, 0] rfl (ih x2 (x3 + 1) _ h)
def f_M_boundsOf (p0 : Int32) (σ : CS) : Option (Int32 × CS) := L_M_boundsOf_4 p0 FU (-1) 0 σ
set_option maxHeartbeats 4000000 in
set_option maxRecDepth 100000 in
theorem c_M_boundsOf {l : Launch} {g : EG} {am : Nat → Nat} {Rr : va_W} {σ σ' : CS} {r : Int32} {p0 : Int32}  (h : f_M_boundsOf p0 σ = some (r, σ')) : CmI l g yX12_boundsOf (.code yX12_boundsOf cX12_boundsOf 4 (some .int)) 0 0 am Rr σ [.ref (am 112), .int p0] r σ' := by
  refine Ct.of rfl (by decide) (Nat.le_of_ble_eq_true rfl) ?_
  intro p e s m args below meth c A C hr
  show NMI g p l e s m args below meth c A 0 0 4 am Rr (r, σ') σ [(0, .ref (am 112)), (1, .int p0)] 0 []
  unfold f_M_boundsOf at h
  refine nw_iconst (v := (-1)) C dX12_boundsOf_0 (by decide) ?_
  refine nw_istore_n (lv' := [(2, .int (-1)), (0, .ref (am 112)), (1, .int p0)]) C dX12_boundsOf_1 rfl (by decide) rfl ?_
  refine nw_iconst (v := 0) C dX12_boundsOf_2 (by decide) ?_
  refine nw_istore_n (lv' := [(3, .int 0), (2, .int (-1)), (0, .ref (am 112)), (1, .int p0)]) C dX12_boundsOf_3 rfl (by decide) rfl ?_
  exact nw_lv (lv' := [(0, .ref (am 112)), (1, .int p0), (2, .int (-1)), (3, .int 0)]) [2, 3, 1, 0] rfl (w_M_boundsOf_4 C hr p0 FU (-1) 0 _ h)
theorem dX12_bounds_0 : decode cX12_bounds 0 = .ok (.aload_n 0, 1) := by decide +kernel
theorem dX12_bounds_1 : decode cX12_bounds 1 = .ok (.iconst 0, 1) := by decide +kernel
theorem dX12_bounds_2 : decode cX12_bounds 2 = .ok (.putfield 253, 3) := by decide +kernel
theorem dX12_bounds_5 : decode cX12_bounds 5 = .ok (.aload_n 0, 1) := by decide +kernel
theorem dX12_bounds_6 : decode cX12_bounds 6 = .ok (.iload_n 1, 1) := by decide +kernel
theorem dX12_bounds_7 : decode cX12_bounds 7 = .ok (.invokestatic 298, 3) := by decide +kernel
theorem dX12_bounds_10 : decode cX12_bounds 10 = .ok (.ifCond .ne 7, 3) := by decide +kernel
theorem dX12_bounds_13 : decode cX12_bounds 13 = .ok (.iconst 1, 1) := by decide +kernel
theorem dX12_bounds_14 : decode cX12_bounds 14 = .ok (.goto 4, 3) := by decide +kernel
theorem dX12_bounds_17 : decode cX12_bounds 17 = .ok (.iconst 0, 1) := by decide +kernel
theorem dX12_bounds_18 : decode cX12_bounds 18 = .ok (.iconst 1, 1) := by decide +kernel
theorem dX12_bounds_19 : decode cX12_bounds 19 = .ok (.invokevirtual 265, 3) := by decide +kernel
theorem dX12_bounds_22 : decode cX12_bounds 22 = .ok (.ifCond .eq 7, 3) := by decide +kernel
theorem dX12_bounds_25 : decode cX12_bounds 25 = .ok (.iconst 0, 1) := by decide +kernel
theorem dX12_bounds_26 : decode cX12_bounds 26 = .ok (.goto 8, 3) := by decide +kernel
theorem dX12_bounds_29 : decode cX12_bounds 29 = .ok (.aload_n 0, 1) := by decide +kernel
theorem dX12_bounds_30 : decode cX12_bounds 30 = .ok (.iload_n 1, 1) := by decide +kernel
theorem dX12_bounds_31 : decode cX12_bounds 31 = .ok (.invokevirtual 312, 3) := by decide +kernel
theorem dX12_bounds_34 : decode cX12_bounds 34 = .ok (.ireturn, 1) := by decide +kernel
def B_M_bounds_18   (x1 : Int32) (z1 : Int32) (σ : CS) : Option (Int32 × CS) := bnd (f_M_bad z1 1 σ) (fun r19 σ19 => if r19 = 0 then bnd (f_M_boundsOf x1 σ19) (fun r31 σ31 => some (r31, σ31)) else some (0, σ19))
set_option maxHeartbeats 4000000 in
set_option maxRecDepth 100000 in
theorem w_M_bounds_18 (C : Cx g p s m args meth c A 2 cX12_bounds yX12_bounds.cls) (hr : meth.sig.returnType = (some .int))  {res : Int32 × CS}   (x1 : Int32) (z1 : Int32)  (σ : CS) (h : B_M_bounds_18 x1 z1 σ = some res) : NMI g p l e s m args below meth c A 2 42 2 am Rr res σ [(0, .ref (am 112)), (1, .int x1)] 18 [.int z1, .ref (am 112)] := by
  unfold B_M_bounds_18 at h
  refine nw_iconst (v := 1) C dX12_bounds_18 (by decide) ?_
  refine nm_callVI (q0 := 0) (As := [.int z1, .int 1]) (rest := []) C h (fun _ _ e => c_M_bad e) tw_1924 kv_X12_bad ml_O rfl ⟨Nat.le_of_ble_eq_true rfl, Nat.le_of_ble_eq_true rfl⟩ rfl dX12_bounds_19 rfl (Nat.le_of_ble_eq_true rfl) (fun r19 σ19 h => ?_)
  refine nw_if_eq (tgt := 29) C dX12_bounds_22 (by decide) h (fun _ h => ?_) (fun _ h => ?_)
  · refine nw_aload_n C dX12_bounds_29 rfl 0 rfl ?_
    refine nw_iload_n C dX12_bounds_30 rfl 1 rfl ?_
    refine nm_callVI (q0 := 0) (As := [.int x1]) (rest := []) C h (fun _ _ e => c_M_boundsOf e) tw_1978 kv_X12_boundsOf ml_O rfl ⟨Nat.le_of_ble_eq_true rfl, Nat.le_of_ble_eq_true rfl⟩ rfl dX12_bounds_31 rfl (Nat.le_of_ble_eq_true rfl) (fun r31 σ31 h => ?_)
    exact nm_iret C hr dX12_bounds_34 h
  · refine nw_iconst (v := 0) C dX12_bounds_25 (by decide) ?_
    refine nw_goto (tgt := 34) C dX12_bounds_26 (by decide) ?_
    exact nm_iret C hr dX12_bounds_34 h
def f_M_bounds (p0 : Int32) (σ : CS) : Option (Int32 × CS) := bnd (f_M_isDay p0 (sF σ 0 0)) (fun r7 σ7 => if r7 = 0 then B_M_bounds_18 p0 1 σ7 else B_M_bounds_18 p0 0 σ7)
set_option maxHeartbeats 4000000 in
set_option maxRecDepth 100000 in
theorem c_M_bounds {l : Launch} {g : EG} {am : Nat → Nat} {Rr : va_W} {σ σ' : CS} {r : Int32} {p0 : Int32}  (h : f_M_bounds p0 σ = some (r, σ')) : CmI l g yX12_bounds (.code yX12_bounds cX12_bounds 2 (some .int)) 2 42 am Rr σ [.ref (am 112), .int p0] r σ' := by
  refine Ct.of rfl (by decide) (Nat.le_of_ble_eq_true rfl) ?_
  intro p e s m args below meth c A C hr
  show NMI g p l e s m args below meth c A 2 42 2 am Rr (r, σ') σ [(0, .ref (am 112)), (1, .int p0)] 0 []
  unfold f_M_bounds at h
  refine nw_aload_n C dX12_bounds_0 rfl 0 rfl ?_
  refine nw_iconst (v := 0) C dX12_bounds_1 (by decide) ?_
  refine nw_put (ty := .int) C in_X12 0 ml_O rfl 0 (by decide) tyX12 tyX12_ok nmX12 tw_1573 rfl rfl (by decide +kernel) rfl rfl (Nat.le_of_ble_eq_true rfl) dX12_bounds_2 ms_0 ?_
  refine nw_aload_n C dX12_bounds_5 rfl 0 rfl ?_
  refine nw_iload_n C dX12_bounds_6 rfl 1 rfl ?_
  refine nm_callSI  (As := [.int p0]) (rest := [.ref (am 112)]) C h (fun _ _ e => c_M_isDay e) tw_1936 ks_X12_isDay ⟨Nat.le_of_ble_eq_true rfl, Nat.le_of_ble_eq_true rfl⟩ rfl dX12_bounds_7 rfl (Nat.le_of_ble_eq_true rfl) (fun r7 σ7 h => ?_)
  refine nw_if_ne (tgt := 17) C dX12_bounds_10 (by decide) h (fun _ h => ?_) (fun _ h => ?_)
  · refine nw_iconst (v := 1) C dX12_bounds_13 (by decide) ?_
    refine nw_goto (tgt := 18) C dX12_bounds_14 (by decide) ?_
    exact nw_lv (lv' := [(0, .ref (am 112)), (1, .int p0)]) [0, 1] rfl (w_M_bounds_18 C hr p0 1 _ h)
  · refine nw_iconst (v := 0) C dX12_bounds_17 (by decide) ?_
    exact nw_lv (lv' := [(0, .ref (am 112)), (1, .int p0)]) [0, 1] rfl (w_M_bounds_18 C hr p0 0 _ h)
theorem dX12_isNear_0 : decode cX12_isNear 0 = .ok (.aload_n 0, 1) := by decide +kernel
theorem dX12_isNear_1 : decode cX12_isNear 1 = .ok (.iload_n 1, 1) := by decide +kernel
theorem dX12_isNear_2 : decode cX12_isNear 2 = .ok (.iload_n 2, 1) := by decide +kernel
theorem dX12_isNear_3 : decode cX12_isNear 3 = .ok (.iload_n 3, 1) := by decide +kernel
theorem dX12_isNear_4 : decode cX12_isNear 4 = .ok (.invokevirtual 292, 3) := by decide +kernel
theorem dX12_isNear_7 : decode cX12_isNear 7 = .ok (.ifCond .eq 5, 3) := by decide +kernel
theorem dX12_isNear_10 : decode cX12_isNear 10 = .ok (.iconst 1, 1) := by decide +kernel
theorem dX12_isNear_11 : decode cX12_isNear 11 = .ok (.ireturn, 1) := by decide +kernel
theorem dX12_isNear_12 : decode cX12_isNear 12 = .ok (.aload_n 0, 1) := by decide +kernel
theorem dX12_isNear_13 : decode cX12_isNear 13 = .ok (.iload_n 1, 1) := by decide +kernel
theorem dX12_isNear_14 : decode cX12_isNear 14 = .ok (.iconst 1, 1) := by decide +kernel
theorem dX12_isNear_15 : decode cX12_isNear 15 = .ok (.iadd, 1) := by decide +kernel
theorem dX12_isNear_16 : decode cX12_isNear 16 = .ok (.invokevirtual 278, 3) := by decide +kernel
theorem dX12_isNear_19 : decode cX12_isNear 19 = .ok (.aload_n 0, 1) := by decide +kernel
theorem dX12_isNear_20 : decode cX12_isNear 20 = .ok (.iload_n 1, 1) := by decide +kernel
theorem dX12_isNear_21 : decode cX12_isNear 21 = .ok (.invokevirtual 278, 3) := by decide +kernel
theorem dX12_isNear_24 : decode cX12_isNear 24 = .ok (.isub, 1) := by decide +kernel
theorem dX12_isNear_25 : decode cX12_isNear 25 = .ok (.i2l, 1) := by decide +kernel
theorem dX12_isNear_26 : decode cX12_isNear 26 = .ok (.lstore 4, 2) := by decide +kernel
theorem dX12_isNear_28 : decode cX12_isNear 28 = .ok (.aload_n 0, 1) := by decide +kernel
theorem dX12_isNear_29 : decode cX12_isNear 29 = .ok (.iload_n 1, 1) := by decide +kernel
theorem dX12_isNear_30 : decode cX12_isNear 30 = .ok (.iconst 1, 1) := by decide +kernel
theorem dX12_isNear_31 : decode cX12_isNear 31 = .ok (.iadd, 1) := by decide +kernel
theorem dX12_isNear_32 : decode cX12_isNear 32 = .ok (.invokevirtual 282, 3) := by decide +kernel
theorem dX12_isNear_35 : decode cX12_isNear 35 = .ok (.aload_n 0, 1) := by decide +kernel
theorem dX12_isNear_36 : decode cX12_isNear 36 = .ok (.iload_n 1, 1) := by decide +kernel
theorem dX12_isNear_37 : decode cX12_isNear 37 = .ok (.invokevirtual 282, 3) := by decide +kernel
theorem dX12_isNear_40 : decode cX12_isNear 40 = .ok (.isub, 1) := by decide +kernel
theorem dX12_isNear_41 : decode cX12_isNear 41 = .ok (.i2l, 1) := by decide +kernel
theorem dX12_isNear_42 : decode cX12_isNear 42 = .ok (.lstore 6, 2) := by decide +kernel
theorem dX12_isNear_44 : decode cX12_isNear 44 = .ok (.iload_n 2, 1) := by decide +kernel
theorem dX12_isNear_45 : decode cX12_isNear 45 = .ok (.aload_n 0, 1) := by decide +kernel
theorem dX12_isNear_46 : decode cX12_isNear 46 = .ok (.iload_n 1, 1) := by decide +kernel
theorem dX12_isNear_47 : decode cX12_isNear 47 = .ok (.invokevirtual 278, 3) := by decide +kernel
theorem dX12_isNear_50 : decode cX12_isNear 50 = .ok (.isub, 1) := by decide +kernel
theorem dX12_isNear_51 : decode cX12_isNear 51 = .ok (.i2l, 1) := by decide +kernel
theorem dX12_isNear_52 : decode cX12_isNear 52 = .ok (.lstore 8, 2) := by decide +kernel
theorem dX12_isNear_54 : decode cX12_isNear 54 = .ok (.iload_n 3, 1) := by decide +kernel
theorem dX12_isNear_55 : decode cX12_isNear 55 = .ok (.aload_n 0, 1) := by decide +kernel
theorem dX12_isNear_56 : decode cX12_isNear 56 = .ok (.iload_n 1, 1) := by decide +kernel
theorem dX12_isNear_57 : decode cX12_isNear 57 = .ok (.invokevirtual 282, 3) := by decide +kernel
theorem dX12_isNear_60 : decode cX12_isNear 60 = .ok (.isub, 1) := by decide +kernel
theorem dX12_isNear_61 : decode cX12_isNear 61 = .ok (.i2l, 1) := by decide +kernel
theorem dX12_isNear_62 : decode cX12_isNear 62 = .ok (.lstore 10, 2) := by decide +kernel
theorem dX12_isNear_64 : decode cX12_isNear 64 = .ok (.iload_n 2, 1) := by decide +kernel
theorem dX12_isNear_65 : decode cX12_isNear 65 = .ok (.aload_n 0, 1) := by decide +kernel
theorem dX12_isNear_66 : decode cX12_isNear 66 = .ok (.iload_n 1, 1) := by decide +kernel
theorem dX12_isNear_67 : decode cX12_isNear 67 = .ok (.iconst 1, 1) := by decide +kernel
theorem dX12_isNear_68 : decode cX12_isNear 68 = .ok (.iadd, 1) := by decide +kernel
theorem dX12_isNear_69 : decode cX12_isNear 69 = .ok (.invokevirtual 278, 3) := by decide +kernel
theorem dX12_isNear_72 : decode cX12_isNear 72 = .ok (.isub, 1) := by decide +kernel
theorem dX12_isNear_73 : decode cX12_isNear 73 = .ok (.i2l, 1) := by decide +kernel
theorem dX12_isNear_74 : decode cX12_isNear 74 = .ok (.lstore 12, 2) := by decide +kernel
theorem dX12_isNear_76 : decode cX12_isNear 76 = .ok (.iload_n 3, 1) := by decide +kernel
theorem dX12_isNear_77 : decode cX12_isNear 77 = .ok (.aload_n 0, 1) := by decide +kernel
theorem dX12_isNear_78 : decode cX12_isNear 78 = .ok (.iload_n 1, 1) := by decide +kernel
theorem dX12_isNear_79 : decode cX12_isNear 79 = .ok (.iconst 1, 1) := by decide +kernel
theorem dX12_isNear_80 : decode cX12_isNear 80 = .ok (.iadd, 1) := by decide +kernel
theorem dX12_isNear_81 : decode cX12_isNear 81 = .ok (.invokevirtual 282, 3) := by decide +kernel
theorem dX12_isNear_84 : decode cX12_isNear 84 = .ok (.isub, 1) := by decide +kernel
theorem dX12_isNear_85 : decode cX12_isNear 85 = .ok (.i2l, 1) := by decide +kernel
theorem dX12_isNear_86 : decode cX12_isNear 86 = .ok (.lstore 14, 2) := by decide +kernel
theorem dX12_isNear_88 : decode cX12_isNear 88 = .ok (.aload_n 0, 1) := by decide +kernel
theorem dX12_isNear_89 : decode cX12_isNear 89 = .ok (.getfield 309, 3) := by decide +kernel
theorem dX12_isNear_92 : decode cX12_isNear 92 = .ok (.i2l, 1) := by decide +kernel
theorem dX12_isNear_93 : decode cX12_isNear 93 = .ok (.aload_n 0, 1) := by decide +kernel
theorem dX12_isNear_94 : decode cX12_isNear 94 = .ok (.getfield 309, 3) := by decide +kernel
theorem dX12_isNear_97 : decode cX12_isNear 97 = .ok (.i2l, 1) := by decide +kernel
theorem dX12_isNear_98 : decode cX12_isNear 98 = .ok (.lmul, 1) := by decide +kernel
theorem dX12_isNear_99 : decode cX12_isNear 99 = .ok (.lstore 16, 2) := by decide +kernel
theorem dX12_isNear_101 : decode cX12_isNear 101 = .ok (.lload 8, 2) := by decide +kernel
theorem dX12_isNear_103 : decode cX12_isNear 103 = .ok (.lload 4, 2) := by decide +kernel
theorem dX12_isNear_105 : decode cX12_isNear 105 = .ok (.lmul, 1) := by decide +kernel
theorem dX12_isNear_106 : decode cX12_isNear 106 = .ok (.lload 10, 2) := by decide +kernel
theorem dX12_isNear_108 : decode cX12_isNear 108 = .ok (.lload 6, 2) := by decide +kernel
theorem dX12_isNear_110 : decode cX12_isNear 110 = .ok (.lmul, 1) := by decide +kernel
theorem dX12_isNear_111 : decode cX12_isNear 111 = .ok (.ladd, 1) := by decide +kernel
theorem dX12_isNear_112 : decode cX12_isNear 112 = .ok (.lstore 18, 2) := by decide +kernel
theorem dX12_isNear_114 : decode cX12_isNear 114 = .ok (.lload 4, 2) := by decide +kernel
theorem dX12_isNear_116 : decode cX12_isNear 116 = .ok (.lload 4, 2) := by decide +kernel
theorem dX12_isNear_118 : decode cX12_isNear 118 = .ok (.lmul, 1) := by decide +kernel
theorem dX12_isNear_119 : decode cX12_isNear 119 = .ok (.lload 6, 2) := by decide +kernel
theorem dX12_isNear_121 : decode cX12_isNear 121 = .ok (.lload 6, 2) := by decide +kernel
theorem dX12_isNear_123 : decode cX12_isNear 123 = .ok (.lmul, 1) := by decide +kernel
theorem dX12_isNear_124 : decode cX12_isNear 124 = .ok (.ladd, 1) := by decide +kernel
theorem dX12_isNear_125 : decode cX12_isNear 125 = .ok (.lstore 20, 2) := by decide +kernel
theorem dX12_isNear_127 : decode cX12_isNear 127 = .ok (.lload 18, 2) := by decide +kernel
theorem dX12_isNear_129 : decode cX12_isNear 129 = .ok (.lconst 0, 1) := by decide +kernel
theorem dX12_isNear_130 : decode cX12_isNear 130 = .ok (.lcmp, 1) := by decide +kernel
theorem dX12_isNear_131 : decode cX12_isNear 131 = .ok (.ifCond .gt 26, 3) := by decide +kernel
theorem dX12_isNear_134 : decode cX12_isNear 134 = .ok (.lload 8, 2) := by decide +kernel
theorem dX12_isNear_136 : decode cX12_isNear 136 = .ok (.lload 8, 2) := by decide +kernel
theorem dX12_isNear_138 : decode cX12_isNear 138 = .ok (.lmul, 1) := by decide +kernel
theorem dX12_isNear_139 : decode cX12_isNear 139 = .ok (.lload 10, 2) := by decide +kernel
theorem dX12_isNear_141 : decode cX12_isNear 141 = .ok (.lload 10, 2) := by decide +kernel
theorem dX12_isNear_143 : decode cX12_isNear 143 = .ok (.lmul, 1) := by decide +kernel
theorem dX12_isNear_144 : decode cX12_isNear 144 = .ok (.ladd, 1) := by decide +kernel
theorem dX12_isNear_145 : decode cX12_isNear 145 = .ok (.lload 16, 2) := by decide +kernel
theorem dX12_isNear_147 : decode cX12_isNear 147 = .ok (.lcmp, 1) := by decide +kernel
theorem dX12_isNear_148 : decode cX12_isNear 148 = .ok (.ifCond .gt 7, 3) := by decide +kernel
theorem dX12_isNear_151 : decode cX12_isNear 151 = .ok (.iconst 1, 1) := by decide +kernel
theorem dX12_isNear_152 : decode cX12_isNear 152 = .ok (.goto 4, 3) := by decide +kernel
theorem dX12_isNear_155 : decode cX12_isNear 155 = .ok (.iconst 0, 1) := by decide +kernel
theorem dX12_isNear_156 : decode cX12_isNear 156 = .ok (.ireturn, 1) := by decide +kernel
theorem dX12_isNear_157 : decode cX12_isNear 157 = .ok (.lload 18, 2) := by decide +kernel
theorem dX12_isNear_159 : decode cX12_isNear 159 = .ok (.lload 20, 2) := by decide +kernel
theorem dX12_isNear_161 : decode cX12_isNear 161 = .ok (.lcmp, 1) := by decide +kernel
theorem dX12_isNear_162 : decode cX12_isNear 162 = .ok (.ifCond .lt 26, 3) := by decide +kernel
theorem dX12_isNear_165 : decode cX12_isNear 165 = .ok (.lload 12, 2) := by decide +kernel
theorem dX12_isNear_167 : decode cX12_isNear 167 = .ok (.lload 12, 2) := by decide +kernel
theorem dX12_isNear_169 : decode cX12_isNear 169 = .ok (.lmul, 1) := by decide +kernel
theorem dX12_isNear_170 : decode cX12_isNear 170 = .ok (.lload 14, 2) := by decide +kernel
theorem dX12_isNear_172 : decode cX12_isNear 172 = .ok (.lload 14, 2) := by decide +kernel
theorem dX12_isNear_174 : decode cX12_isNear 174 = .ok (.lmul, 1) := by decide +kernel
theorem dX12_isNear_175 : decode cX12_isNear 175 = .ok (.ladd, 1) := by decide +kernel
theorem dX12_isNear_176 : decode cX12_isNear 176 = .ok (.lload 16, 2) := by decide +kernel
theorem dX12_isNear_178 : decode cX12_isNear 178 = .ok (.lcmp, 1) := by decide +kernel
theorem dX12_isNear_179 : decode cX12_isNear 179 = .ok (.ifCond .gt 7, 3) := by decide +kernel
theorem dX12_isNear_182 : decode cX12_isNear 182 = .ok (.iconst 1, 1) := by decide +kernel
theorem dX12_isNear_183 : decode cX12_isNear 183 = .ok (.goto 4, 3) := by decide +kernel
theorem dX12_isNear_186 : decode cX12_isNear 186 = .ok (.iconst 0, 1) := by decide +kernel
theorem dX12_isNear_187 : decode cX12_isNear 187 = .ok (.ireturn, 1) := by decide +kernel
theorem dX12_isNear_188 : decode cX12_isNear 188 = .ok (.lload 4, 2) := by decide +kernel
theorem dX12_isNear_190 : decode cX12_isNear 190 = .ok (.lload 10, 2) := by decide +kernel
theorem dX12_isNear_192 : decode cX12_isNear 192 = .ok (.lmul, 1) := by decide +kernel
theorem dX12_isNear_193 : decode cX12_isNear 193 = .ok (.lload 6, 2) := by decide +kernel
theorem dX12_isNear_195 : decode cX12_isNear 195 = .ok (.lload 8, 2) := by decide +kernel
theorem dX12_isNear_197 : decode cX12_isNear 197 = .ok (.lmul, 1) := by decide +kernel
theorem dX12_isNear_198 : decode cX12_isNear 198 = .ok (.lsub, 1) := by decide +kernel
theorem dX12_isNear_199 : decode cX12_isNear 199 = .ok (.lstore 22, 2) := by decide +kernel
theorem dX12_isNear_201 : decode cX12_isNear 201 = .ok (.lload 22, 2) := by decide +kernel
theorem dX12_isNear_203 : decode cX12_isNear 203 = .ok (.lload 22, 2) := by decide +kernel
theorem dX12_isNear_205 : decode cX12_isNear 205 = .ok (.lmul, 1) := by decide +kernel
theorem dX12_isNear_206 : decode cX12_isNear 206 = .ok (.lload 16, 2) := by decide +kernel
theorem dX12_isNear_208 : decode cX12_isNear 208 = .ok (.lload 20, 2) := by decide +kernel
theorem dX12_isNear_210 : decode cX12_isNear 210 = .ok (.lmul, 1) := by decide +kernel
theorem dX12_isNear_211 : decode cX12_isNear 211 = .ok (.lcmp, 1) := by decide +kernel
theorem dX12_isNear_212 : decode cX12_isNear 212 = .ok (.ifCond .gt 7, 3) := by decide +kernel
theorem dX12_isNear_215 : decode cX12_isNear 215 = .ok (.iconst 1, 1) := by decide +kernel
theorem dX12_isNear_216 : decode cX12_isNear 216 = .ok (.goto 4, 3) := by decide +kernel
theorem dX12_isNear_219 : decode cX12_isNear 219 = .ok (.iconst 0, 1) := by decide +kernel
theorem dX12_isNear_220 : decode cX12_isNear 220 = .ok (.ireturn, 1) := by decide +kernel
def f_M_isNear (p0 : Int32) (p1 : Int32) (p2 : Int32) (σ : CS) : Option (Int32 × CS) := bnd (f_M_isOn p0 p1 p2 σ) (fun r4 σ4 => if r4 = 0 then bnd (f_M_x (p0 + 1) σ4) (fun r16 σ16 => bnd (f_M_x p0 σ16) (fun r21 σ21 => bnd (f_M_y (p0 + 1) σ21) (fun r32 σ32 => bnd (f_M_y p0 σ32) (fun r37 σ37 => bnd (f_M_x p0 σ37) (fun r47 σ47 => bnd (f_M_y p0 σ47) (fun r57 σ57 => bnd (f_M_x (p0 + 1) σ57) (fun r69 σ69 => bnd (f_M_y (p0 + 1) σ69) (fun r81 σ81 => if 0 < (lg_cmp (((((p1 - r47) : Int32).toInt64) * (((r16 - r21) : Int32).toInt64)) + ((((p2 - r57) : Int32).toInt64) * (((r32 - r37) : Int32).toInt64))) 0) then if (lg_cmp (((((p1 - r47) : Int32).toInt64) * (((r16 - r21) : Int32).toInt64)) + ((((p2 - r57) : Int32).toInt64) * (((r32 - r37) : Int32).toInt64))) (((((r16 - r21) : Int32).toInt64) * (((r16 - r21) : Int32).toInt64)) + ((((r32 - r37) : Int32).toInt64) * (((r32 - r37) : Int32).toInt64)))) < 0 then if 0 < (lg_cmp ((((((r16 - r21) : Int32).toInt64) * (((p2 - r57) : Int32).toInt64)) - ((((r32 - r37) : Int32).toInt64) * (((p1 - r47) : Int32).toInt64))) * (((((r16 - r21) : Int32).toInt64) * (((p2 - r57) : Int32).toInt64)) - ((((r32 - r37) : Int32).toInt64) * (((p1 - r47) : Int32).toInt64)))) (((((σ81.1 11) : Int32).toInt64) * (((σ81.1 11) : Int32).toInt64)) * (((((r16 - r21) : Int32).toInt64) * (((r16 - r21) : Int32).toInt64)) + ((((r32 - r37) : Int32).toInt64) * (((r32 - r37) : Int32).toInt64))))) then some (0, σ81) else some (1, σ81) else if 0 < (lg_cmp (((((p1 - r69) : Int32).toInt64) * (((p1 - r69) : Int32).toInt64)) + ((((p2 - r81) : Int32).toInt64) * (((p2 - r81) : Int32).toInt64))) ((((σ81.1 11) : Int32).toInt64) * (((σ81.1 11) : Int32).toInt64))) then some (0, σ81) else some (1, σ81) else if 0 < (lg_cmp (((((p1 - r47) : Int32).toInt64) * (((p1 - r47) : Int32).toInt64)) + ((((p2 - r57) : Int32).toInt64) * (((p2 - r57) : Int32).toInt64))) ((((σ81.1 11) : Int32).toInt64) * (((σ81.1 11) : Int32).toInt64))) then some (0, σ81) else some (1, σ81))))))))) else some (1, σ4))
set_option maxHeartbeats 4000000 in
set_option maxRecDepth 100000 in
theorem c_M_isNear {l : Launch} {g : EG} {am : Nat → Nat} {Rr : va_W} {σ σ' : CS} {r : Int32} {p0 : Int32} {p1 : Int32} {p2 : Int32}  (h : f_M_isNear p0 p1 p2 σ = some (r, σ')) : CmI l g yX12_isNear (.code yX12_isNear cX12_isNear 24 (some .boolean)) 2 49 am Rr σ [.ref (am 112), .int p0, .int p1, .int p2] r σ' := by
  refine Ct.of rfl (by decide) (Nat.le_of_ble_eq_true rfl) ?_
  intro p e s m args below meth c A C hr
  show NMI g p l e s m args below meth c A 2 49 24 am Rr (r, σ') σ [(0, .ref (am 112)), (1, .int p0), (2, .int p1), (3, .int p2)] 0 []
  unfold f_M_isNear at h
  refine nw_aload_n C dX12_isNear_0 rfl 0 rfl ?_
  refine nw_iload_n C dX12_isNear_1 rfl 1 rfl ?_
  refine nw_iload_n C dX12_isNear_2 rfl 2 rfl ?_
  refine nw_iload_n C dX12_isNear_3 rfl 3 rfl ?_
  refine nm_callVI (q0 := 0) (As := [.int p0, .int p1, .int p2]) (rest := []) C h (fun _ _ e => c_M_isOn e) tw_1952 kv_X12_isOn ml_O rfl ⟨Nat.le_of_ble_eq_true rfl, Nat.le_of_ble_eq_true rfl⟩ rfl dX12_isNear_4 rfl (Nat.le_of_ble_eq_true rfl) (fun r4 σ4 h => ?_)
  refine nw_if_eq (tgt := 12) C dX12_isNear_7 (by decide) h (fun _ h => ?_) (fun _ h => ?_)
  · refine nw_aload_n C dX12_isNear_12 rfl 0 rfl ?_
    refine nw_iload_n C dX12_isNear_13 rfl 1 rfl ?_
    refine nw_iconst (v := 1) C dX12_isNear_14 (by decide) ?_
    refine nw_iadd C dX12_isNear_15 ?_
    refine nm_callVI (q0 := 0) (As := [.int (p0 + 1)]) (rest := []) C h (fun _ _ e => c_M_x e) tw_1944 kv_X12_x ml_O rfl ⟨Nat.le_of_ble_eq_true rfl, Nat.le_of_ble_eq_true rfl⟩ rfl dX12_isNear_16 rfl (Nat.le_of_ble_eq_true rfl) (fun r16 σ16 h => ?_)
    refine nw_aload_n C dX12_isNear_19 rfl 0 rfl ?_
    refine nw_iload_n C dX12_isNear_20 rfl 1 rfl ?_
    refine nm_callVI (q0 := 0) (As := [.int p0]) (rest := [.int r16]) C h (fun _ _ e => c_M_x e) tw_1944 kv_X12_x ml_O rfl ⟨Nat.le_of_ble_eq_true rfl, Nat.le_of_ble_eq_true rfl⟩ rfl dX12_isNear_21 rfl (Nat.le_of_ble_eq_true rfl) (fun r21 σ21 h => ?_)
    refine nw_isub C dX12_isNear_24 ?_
    refine nw_i2l C dX12_isNear_25 ?_
    refine nw_lstore (lv' := [(4, .long (((r16 - r21) : Int32).toInt64)), (0, .ref (am 112)), (1, .int p0), (2, .int p1), (3, .int p2)]) C dX12_isNear_26 (by decide) rfl ?_
    refine nw_aload_n C dX12_isNear_28 rfl 1 rfl ?_
    refine nw_iload_n C dX12_isNear_29 rfl 2 rfl ?_
    refine nw_iconst (v := 1) C dX12_isNear_30 (by decide) ?_
    refine nw_iadd C dX12_isNear_31 ?_
    refine nm_callVI (q0 := 0) (As := [.int (p0 + 1)]) (rest := []) C h (fun _ _ e => c_M_y e) tw_1948 kv_X12_y ml_O rfl ⟨Nat.le_of_ble_eq_true rfl, Nat.le_of_ble_eq_true rfl⟩ rfl dX12_isNear_32 rfl (Nat.le_of_ble_eq_true rfl) (fun r32 σ32 h => ?_)
    refine nw_aload_n C dX12_isNear_35 rfl 1 rfl ?_
    refine nw_iload_n C dX12_isNear_36 rfl 2 rfl ?_
    refine nm_callVI (q0 := 0) (As := [.int p0]) (rest := [.int r32]) C h (fun _ _ e => c_M_y e) tw_1948 kv_X12_y ml_O rfl ⟨Nat.le_of_ble_eq_true rfl, Nat.le_of_ble_eq_true rfl⟩ rfl dX12_isNear_37 rfl (Nat.le_of_ble_eq_true rfl) (fun r37 σ37 h => ?_)
    refine nw_isub C dX12_isNear_40 ?_
    refine nw_i2l C dX12_isNear_41 ?_
    refine nw_lstore (lv' := [(6, .long (((r32 - r37) : Int32).toInt64)), (4, .long (((r16 - r21) : Int32).toInt64)), (0, .ref (am 112)), (1, .int p0), (2, .int p1), (3, .int p2)]) C dX12_isNear_42 (by decide) rfl ?_
    refine nw_iload_n C dX12_isNear_44 rfl 4 rfl ?_
    refine nw_aload_n C dX12_isNear_45 rfl 2 rfl ?_
    refine nw_iload_n C dX12_isNear_46 rfl 3 rfl ?_
    refine nm_callVI (q0 := 0) (As := [.int p0]) (rest := [.int p1]) C h (fun _ _ e => c_M_x e) tw_1944 kv_X12_x ml_O rfl ⟨Nat.le_of_ble_eq_true rfl, Nat.le_of_ble_eq_true rfl⟩ rfl dX12_isNear_47 rfl (Nat.le_of_ble_eq_true rfl) (fun r47 σ47 h => ?_)
    refine nw_isub C dX12_isNear_50 ?_
    refine nw_i2l C dX12_isNear_51 ?_
    refine nw_lstore (lv' := [(8, .long (((p1 - r47) : Int32).toInt64)), (6, .long (((r32 - r37) : Int32).toInt64)), (4, .long (((r16 - r21) : Int32).toInt64)), (0, .ref (am 112)), (1, .int p0), (2, .int p1), (3, .int p2)]) C dX12_isNear_52 (by decide) rfl ?_
    refine nw_iload_n C dX12_isNear_54 rfl 6 rfl ?_
    refine nw_aload_n C dX12_isNear_55 rfl 3 rfl ?_
    refine nw_iload_n C dX12_isNear_56 rfl 4 rfl ?_
    refine nm_callVI (q0 := 0) (As := [.int p0]) (rest := [.int p2]) C h (fun _ _ e => c_M_y e) tw_1948 kv_X12_y ml_O rfl ⟨Nat.le_of_ble_eq_true rfl, Nat.le_of_ble_eq_true rfl⟩ rfl dX12_isNear_57 rfl (Nat.le_of_ble_eq_true rfl) (fun r57 σ57 h => ?_)
    refine nw_isub C dX12_isNear_60 ?_
    refine nw_i2l C dX12_isNear_61 ?_
    refine nw_lstore (lv' := [(10, .long (((p2 - r57) : Int32).toInt64)), (8, .long (((p1 - r47) : Int32).toInt64)), (6, .long (((r32 - r37) : Int32).toInt64)), (4, .long (((r16 - r21) : Int32).toInt64)), (0, .ref (am 112)), (1, .int p0), (2, .int p1), (3, .int p2)]) C dX12_isNear_62 (by decide) rfl ?_
    refine nw_iload_n C dX12_isNear_64 rfl 6 rfl ?_
    refine nw_aload_n C dX12_isNear_65 rfl 4 rfl ?_
    refine nw_iload_n C dX12_isNear_66 rfl 5 rfl ?_
    refine nw_iconst (v := 1) C dX12_isNear_67 (by decide) ?_
    refine nw_iadd C dX12_isNear_68 ?_
    refine nm_callVI (q0 := 0) (As := [.int (p0 + 1)]) (rest := [.int p1]) C h (fun _ _ e => c_M_x e) tw_1944 kv_X12_x ml_O rfl ⟨Nat.le_of_ble_eq_true rfl, Nat.le_of_ble_eq_true rfl⟩ rfl dX12_isNear_69 rfl (Nat.le_of_ble_eq_true rfl) (fun r69 σ69 h => ?_)
    refine nw_isub C dX12_isNear_72 ?_
    refine nw_i2l C dX12_isNear_73 ?_
    refine nw_lstore (lv' := [(12, .long (((p1 - r69) : Int32).toInt64)), (10, .long (((p2 - r57) : Int32).toInt64)), (8, .long (((p1 - r47) : Int32).toInt64)), (6, .long (((r32 - r37) : Int32).toInt64)), (4, .long (((r16 - r21) : Int32).toInt64)), (0, .ref (am 112)), (1, .int p0), (2, .int p1), (3, .int p2)]) C dX12_isNear_74 (by decide) rfl ?_
    refine nw_iload_n C dX12_isNear_76 rfl 8 rfl ?_
    refine nw_aload_n C dX12_isNear_77 rfl 5 rfl ?_
    refine nw_iload_n C dX12_isNear_78 rfl 6 rfl ?_
    refine nw_iconst (v := 1) C dX12_isNear_79 (by decide) ?_
    refine nw_iadd C dX12_isNear_80 ?_
    refine nm_callVI (q0 := 0) (As := [.int (p0 + 1)]) (rest := [.int p2]) C h (fun _ _ e => c_M_y e) tw_1948 kv_X12_y ml_O rfl ⟨Nat.le_of_ble_eq_true rfl, Nat.le_of_ble_eq_true rfl⟩ rfl dX12_isNear_81 rfl (Nat.le_of_ble_eq_true rfl) (fun r81 σ81 h => ?_)
    refine nw_isub C dX12_isNear_84 ?_
    refine nw_i2l C dX12_isNear_85 ?_
    refine nw_lstore (lv' := [(14, .long (((p2 - r81) : Int32).toInt64)), (12, .long (((p1 - r69) : Int32).toInt64)), (10, .long (((p2 - r57) : Int32).toInt64)), (8, .long (((p1 - r47) : Int32).toInt64)), (6, .long (((r32 - r37) : Int32).toInt64)), (4, .long (((r16 - r21) : Int32).toInt64)), (0, .ref (am 112)), (1, .int p0), (2, .int p1), (3, .int p2)]) C dX12_isNear_86 (by decide) rfl ?_
    refine nw_aload_n C dX12_isNear_88 rfl 6 rfl ?_
    refine nw_get (v := .int (σ81.1 11)) C in_X12 0 ml_O rfl 11 (by decide) tw_1584 rfl mf_11 dX12_isNear_89 ?_
    refine nw_i2l C dX12_isNear_92 ?_
    refine nw_aload_n C dX12_isNear_93 rfl 6 rfl ?_
    refine nw_get (v := .int (σ81.1 11)) C in_X12 0 ml_O rfl 11 (by decide) tw_1584 rfl mf_11 dX12_isNear_94 ?_
    refine nw_i2l C dX12_isNear_97 ?_
    refine nw_lmul C dX12_isNear_98 ?_
    refine nw_lstore (lv' := [(16, .long ((((σ81.1 11) : Int32).toInt64) * (((σ81.1 11) : Int32).toInt64))), (14, .long (((p2 - r81) : Int32).toInt64)), (12, .long (((p1 - r69) : Int32).toInt64)), (10, .long (((p2 - r57) : Int32).toInt64)), (8, .long (((p1 - r47) : Int32).toInt64)), (6, .long (((r32 - r37) : Int32).toInt64)), (4, .long (((r16 - r21) : Int32).toInt64)), (0, .ref (am 112)), (1, .int p0), (2, .int p1), (3, .int p2)]) C dX12_isNear_99 (by decide) rfl ?_
    refine nw_lload C dX12_isNear_101 4 rfl ?_
    refine nw_lload C dX12_isNear_103 6 rfl ?_
    refine nw_lmul C dX12_isNear_105 ?_
    refine nw_lload C dX12_isNear_106 3 rfl ?_
    refine nw_lload C dX12_isNear_108 5 rfl ?_
    refine nw_lmul C dX12_isNear_110 ?_
    refine nw_ladd C dX12_isNear_111 ?_
    refine nw_lstore (lv' := [(18, .long (((((p1 - r47) : Int32).toInt64) * (((r16 - r21) : Int32).toInt64)) + ((((p2 - r57) : Int32).toInt64) * (((r32 - r37) : Int32).toInt64)))), (16, .long ((((σ81.1 11) : Int32).toInt64) * (((σ81.1 11) : Int32).toInt64))), (14, .long (((p2 - r81) : Int32).toInt64)), (12, .long (((p1 - r69) : Int32).toInt64)), (10, .long (((p2 - r57) : Int32).toInt64)), (8, .long (((p1 - r47) : Int32).toInt64)), (6, .long (((r32 - r37) : Int32).toInt64)), (4, .long (((r16 - r21) : Int32).toInt64)), (0, .ref (am 112)), (1, .int p0), (2, .int p1), (3, .int p2)]) C dX12_isNear_112 (by decide) rfl ?_
    refine nw_lload C dX12_isNear_114 7 rfl ?_
    refine nw_lload C dX12_isNear_116 7 rfl ?_
    refine nw_lmul C dX12_isNear_118 ?_
    refine nw_lload C dX12_isNear_119 6 rfl ?_
    refine nw_lload C dX12_isNear_121 6 rfl ?_
    refine nw_lmul C dX12_isNear_123 ?_
    refine nw_ladd C dX12_isNear_124 ?_
    refine nw_lstore (lv' := [(20, .long (((((r16 - r21) : Int32).toInt64) * (((r16 - r21) : Int32).toInt64)) + ((((r32 - r37) : Int32).toInt64) * (((r32 - r37) : Int32).toInt64)))), (18, .long (((((p1 - r47) : Int32).toInt64) * (((r16 - r21) : Int32).toInt64)) + ((((p2 - r57) : Int32).toInt64) * (((r32 - r37) : Int32).toInt64)))), (16, .long ((((σ81.1 11) : Int32).toInt64) * (((σ81.1 11) : Int32).toInt64))), (14, .long (((p2 - r81) : Int32).toInt64)), (12, .long (((p1 - r69) : Int32).toInt64)), (10, .long (((p2 - r57) : Int32).toInt64)), (8, .long (((p1 - r47) : Int32).toInt64)), (6, .long (((r32 - r37) : Int32).toInt64)), (4, .long (((r16 - r21) : Int32).toInt64)), (0, .ref (am 112)), (1, .int p0), (2, .int p1), (3, .int p2)]) C dX12_isNear_125 (by decide) rfl ?_
    refine nw_lload C dX12_isNear_127 1 rfl ?_
    refine nw_lconst (v := 0) C dX12_isNear_129 (by decide) ?_
    refine nw_lcmp C dX12_isNear_130 ?_
    refine nw_if_gt (tgt := 157) C dX12_isNear_131 (by decide) h (fun _ h => ?_) (fun _ h => ?_)
    · refine nw_lload C dX12_isNear_157 1 rfl ?_
      refine nw_lload C dX12_isNear_159 0 rfl ?_
      refine nw_lcmp C dX12_isNear_161 ?_
      refine nw_if_lt (tgt := 188) C dX12_isNear_162 (by decide) h (fun _ h => ?_) (fun _ h => ?_)
      · refine nw_lload C dX12_isNear_188 8 rfl ?_
        refine nw_lload C dX12_isNear_190 5 rfl ?_
        refine nw_lmul C dX12_isNear_192 ?_
        refine nw_lload C dX12_isNear_193 7 rfl ?_
        refine nw_lload C dX12_isNear_195 6 rfl ?_
        refine nw_lmul C dX12_isNear_197 ?_
        refine nw_lsub C dX12_isNear_198 ?_
        refine nw_lstore (lv' := [(22, .long (((((r16 - r21) : Int32).toInt64) * (((p2 - r57) : Int32).toInt64)) - ((((r32 - r37) : Int32).toInt64) * (((p1 - r47) : Int32).toInt64)))), (20, .long (((((r16 - r21) : Int32).toInt64) * (((r16 - r21) : Int32).toInt64)) + ((((r32 - r37) : Int32).toInt64) * (((r32 - r37) : Int32).toInt64)))), (18, .long (((((p1 - r47) : Int32).toInt64) * (((r16 - r21) : Int32).toInt64)) + ((((p2 - r57) : Int32).toInt64) * (((r32 - r37) : Int32).toInt64)))), (16, .long ((((σ81.1 11) : Int32).toInt64) * (((σ81.1 11) : Int32).toInt64))), (14, .long (((p2 - r81) : Int32).toInt64)), (12, .long (((p1 - r69) : Int32).toInt64)), (10, .long (((p2 - r57) : Int32).toInt64)), (8, .long (((p1 - r47) : Int32).toInt64)), (6, .long (((r32 - r37) : Int32).toInt64)), (4, .long (((r16 - r21) : Int32).toInt64)), (0, .ref (am 112)), (1, .int p0), (2, .int p1), (3, .int p2)]) C dX12_isNear_199 (by decide) rfl ?_
        refine nw_lload C dX12_isNear_201 0 rfl ?_
        refine nw_lload C dX12_isNear_203 0 rfl ?_
        refine nw_lmul C dX12_isNear_205 ?_
        refine nw_lload C dX12_isNear_206 3 rfl ?_
        refine nw_lload C dX12_isNear_208 1 rfl ?_
        refine nw_lmul C dX12_isNear_210 ?_
        refine nw_lcmp C dX12_isNear_211 ?_
        refine nw_if_gt (tgt := 219) C dX12_isNear_212 (by decide) h (fun _ h => ?_) (fun _ h => ?_)
        · refine nw_iconst (v := 0) C dX12_isNear_219 (by decide) ?_
          exact nm_zret C hr (Or.inl rfl) dX12_isNear_220 h
        · refine nw_iconst (v := 1) C dX12_isNear_215 (by decide) ?_
          refine nw_goto (tgt := 220) C dX12_isNear_216 (by decide) ?_
          exact nm_zret C hr (Or.inr rfl) dX12_isNear_220 h
      · refine nw_lload C dX12_isNear_165 4 rfl ?_
        refine nw_lload C dX12_isNear_167 4 rfl ?_
        refine nw_lmul C dX12_isNear_169 ?_
        refine nw_lload C dX12_isNear_170 3 rfl ?_
        refine nw_lload C dX12_isNear_172 3 rfl ?_
        refine nw_lmul C dX12_isNear_174 ?_
        refine nw_ladd C dX12_isNear_175 ?_
        refine nw_lload C dX12_isNear_176 2 rfl ?_
        refine nw_lcmp C dX12_isNear_178 ?_
        refine nw_if_gt (tgt := 186) C dX12_isNear_179 (by decide) h (fun _ h => ?_) (fun _ h => ?_)
        · refine nw_iconst (v := 0) C dX12_isNear_186 (by decide) ?_
          exact nm_zret C hr (Or.inl rfl) dX12_isNear_187 h
        · refine nw_iconst (v := 1) C dX12_isNear_182 (by decide) ?_
          refine nw_goto (tgt := 187) C dX12_isNear_183 (by decide) ?_
          exact nm_zret C hr (Or.inr rfl) dX12_isNear_187 h
    · refine nw_lload C dX12_isNear_134 6 rfl ?_
      refine nw_lload C dX12_isNear_136 6 rfl ?_
      refine nw_lmul C dX12_isNear_138 ?_
      refine nw_lload C dX12_isNear_139 5 rfl ?_
      refine nw_lload C dX12_isNear_141 5 rfl ?_
      refine nw_lmul C dX12_isNear_143 ?_
      refine nw_ladd C dX12_isNear_144 ?_
      refine nw_lload C dX12_isNear_145 2 rfl ?_
      refine nw_lcmp C dX12_isNear_147 ?_
      refine nw_if_gt (tgt := 155) C dX12_isNear_148 (by decide) h (fun _ h => ?_) (fun _ h => ?_)
      · refine nw_iconst (v := 0) C dX12_isNear_155 (by decide) ?_
        exact nm_zret C hr (Or.inl rfl) dX12_isNear_156 h
      · refine nw_iconst (v := 1) C dX12_isNear_151 (by decide) ?_
        refine nw_goto (tgt := 156) C dX12_isNear_152 (by decide) ?_
        exact nm_zret C hr (Or.inr rfl) dX12_isNear_156 h
  · refine nw_iconst (v := 1) C dX12_isNear_10 (by decide) ?_
    exact nm_zret C hr (Or.inr rfl) dX12_isNear_11 h
theorem dX12_placed_0 : decode cX12_placed 0 = .ok (.aload_n 0, 1) := by decide +kernel
theorem dX12_placed_1 : decode cX12_placed 1 = .ok (.iload_n 1, 1) := by decide +kernel
theorem dX12_placed_2 : decode cX12_placed 2 = .ok (.invokevirtual 312, 3) := by decide +kernel
theorem dX12_placed_5 : decode cX12_placed 5 = .ok (.istore 4, 2) := by decide +kernel
theorem dX12_placed_7 : decode cX12_placed 7 = .ok (.iload 4, 2) := by decide +kernel
theorem dX12_placed_9 : decode cX12_placed 9 = .ok (.ifCond .ge 5, 3) := by decide +kernel
theorem dX12_placed_12 : decode cX12_placed 12 = .ok (.iconst 0, 1) := by decide +kernel
theorem dX12_placed_13 : decode cX12_placed 13 = .ok (.ireturn, 1) := by decide +kernel
theorem dX12_placed_14 : decode cX12_placed 14 = .ok (.aload_n 0, 1) := by decide +kernel
theorem dX12_placed_15 : decode cX12_placed 15 = .ok (.aload_n 0, 1) := by decide +kernel
theorem dX12_placed_16 : decode cX12_placed 16 = .ok (.getfield 29, 3) := by decide +kernel
theorem dX12_placed_19 : decode cX12_placed 19 = .ok (.iload 4, 2) := by decide +kernel
theorem dX12_placed_21 : decode cX12_placed 21 = .ok (.iaload, 1) := by decide +kernel
theorem dX12_placed_22 : decode cX12_placed 22 = .ok (.putfield 275, 3) := by decide +kernel
theorem dX12_placed_25 : decode cX12_placed 25 = .ok (.iconst 0, 1) := by decide +kernel
theorem dX12_placed_26 : decode cX12_placed 26 = .ok (.istore 5, 2) := by decide +kernel
theorem dX12_placed_28 : decode cX12_placed 28 = .ok (.iload 5, 2) := by decide +kernel
theorem dX12_placed_30 : decode cX12_placed 30 = .ok (.aload_n 0, 1) := by decide +kernel
theorem dX12_placed_31 : decode cX12_placed 31 = .ok (.getfield 275, 3) := by decide +kernel
theorem dX12_placed_34 : decode cX12_placed 34 = .ok (.if_icmp .ge 29, 3) := by decide +kernel
theorem dX12_placed_37 : decode cX12_placed 37 = .ok (.aload_n 0, 1) := by decide +kernel
theorem dX12_placed_38 : decode cX12_placed 38 = .ok (.getfield 23, 3) := by decide +kernel
theorem dX12_placed_41 : decode cX12_placed 41 = .ok (.iload 5, 2) := by decide +kernel
theorem dX12_placed_43 : decode cX12_placed 43 = .ok (.aload_n 0, 1) := by decide +kernel
theorem dX12_placed_44 : decode cX12_placed 44 = .ok (.getfield 26, 3) := by decide +kernel
theorem dX12_placed_47 : decode cX12_placed 47 = .ok (.bipush 10, 2) := by decide +kernel
theorem dX12_placed_49 : decode cX12_placed 49 = .ok (.iload 4, 2) := by decide +kernel
theorem dX12_placed_51 : decode cX12_placed 51 = .ok (.imul, 1) := by decide +kernel
theorem dX12_placed_52 : decode cX12_placed 52 = .ok (.iload 5, 2) := by decide +kernel
theorem dX12_placed_54 : decode cX12_placed 54 = .ok (.iadd, 1) := by decide +kernel
theorem dX12_placed_55 : decode cX12_placed 55 = .ok (.iaload, 1) := by decide +kernel
theorem dX12_placed_56 : decode cX12_placed 56 = .ok (.iastore, 1) := by decide +kernel
theorem dX12_placed_57 : decode cX12_placed 57 = .ok (.iinc 5 1, 3) := by decide +kernel
theorem dX12_placed_60 : decode cX12_placed 60 = .ok (.goto (-32), 3) := by decide +kernel
theorem dX12_placed_63 : decode cX12_placed 63 = .ok (.iconst 0, 1) := by decide +kernel
theorem dX12_placed_64 : decode cX12_placed 64 = .ok (.istore 5, 2) := by decide +kernel
theorem dX12_placed_66 : decode cX12_placed 66 = .ok (.iconst 0, 1) := by decide +kernel
theorem dX12_placed_67 : decode cX12_placed 67 = .ok (.istore 6, 2) := by decide +kernel
theorem dX12_placed_69 : decode cX12_placed 69 = .ok (.iload 6, 2) := by decide +kernel
theorem dX12_placed_71 : decode cX12_placed 71 = .ok (.aload_n 0, 1) := by decide +kernel
theorem dX12_placed_72 : decode cX12_placed 72 = .ok (.getfield 275, 3) := by decide +kernel
theorem dX12_placed_75 : decode cX12_placed 75 = .ok (.if_icmp .ge 130, 3) := by decide +kernel
theorem dX12_placed_78 : decode cX12_placed 78 = .ok (.aload_n 0, 1) := by decide +kernel
theorem dX12_placed_79 : decode cX12_placed 79 = .ok (.iload 6, 2) := by decide +kernel
theorem dX12_placed_81 : decode cX12_placed 81 = .ok (.iload_n 2, 1) := by decide +kernel
theorem dX12_placed_82 : decode cX12_placed 82 = .ok (.iload_n 3, 1) := by decide +kernel
theorem dX12_placed_83 : decode cX12_placed 83 = .ok (.invokevirtual 315, 3) := by decide +kernel
theorem dX12_placed_86 : decode cX12_placed 86 = .ok (.ifCond .eq 5, 3) := by decide +kernel
theorem dX12_placed_89 : decode cX12_placed 89 = .ok (.iconst 2, 1) := by decide +kernel
theorem dX12_placed_90 : decode cX12_placed 90 = .ok (.ireturn, 1) := by decide +kernel
theorem dX12_placed_91 : decode cX12_placed 91 = .ok (.aload_n 0, 1) := by decide +kernel
theorem dX12_placed_92 : decode cX12_placed 92 = .ok (.iload 6, 2) := by decide +kernel
theorem dX12_placed_94 : decode cX12_placed 94 = .ok (.invokevirtual 282, 3) := by decide +kernel
theorem dX12_placed_97 : decode cX12_placed 97 = .ok (.iload_n 3, 1) := by decide +kernel
theorem dX12_placed_98 : decode cX12_placed 98 = .ok (.if_icmp .gt 7, 3) := by decide +kernel
theorem dX12_placed_101 : decode cX12_placed 101 = .ok (.iconst 1, 1) := by decide +kernel
theorem dX12_placed_102 : decode cX12_placed 102 = .ok (.goto 4, 3) := by decide +kernel
theorem dX12_placed_105 : decode cX12_placed 105 = .ok (.iconst 0, 1) := by decide +kernel
theorem dX12_placed_106 : decode cX12_placed 106 = .ok (.aload_n 0, 1) := by decide +kernel
theorem dX12_placed_107 : decode cX12_placed 107 = .ok (.iload 6, 2) := by decide +kernel
theorem dX12_placed_109 : decode cX12_placed 109 = .ok (.iconst 1, 1) := by decide +kernel
theorem dX12_placed_110 : decode cX12_placed 110 = .ok (.iadd, 1) := by decide +kernel
theorem dX12_placed_111 : decode cX12_placed 111 = .ok (.invokevirtual 282, 3) := by decide +kernel
theorem dX12_placed_114 : decode cX12_placed 114 = .ok (.iload_n 3, 1) := by decide +kernel
theorem dX12_placed_115 : decode cX12_placed 115 = .ok (.if_icmp .gt 7, 3) := by decide +kernel
theorem dX12_placed_118 : decode cX12_placed 118 = .ok (.iconst 1, 1) := by decide +kernel
theorem dX12_placed_119 : decode cX12_placed 119 = .ok (.goto 4, 3) := by decide +kernel
theorem dX12_placed_122 : decode cX12_placed 122 = .ok (.iconst 0, 1) := by decide +kernel
theorem dX12_placed_123 : decode cX12_placed 123 = .ok (.if_icmp .ne 6, 3) := by decide +kernel
theorem dX12_placed_126 : decode cX12_placed 126 = .ok (.goto 73, 3) := by decide +kernel
theorem dX12_placed_129 : decode cX12_placed 129 = .ok (.aload_n 0, 1) := by decide +kernel
theorem dX12_placed_130 : decode cX12_placed 130 = .ok (.iload 6, 2) := by decide +kernel
theorem dX12_placed_132 : decode cX12_placed 132 = .ok (.invokevirtual 278, 3) := by decide +kernel
theorem dX12_placed_135 : decode cX12_placed 135 = .ok (.aload_n 0, 1) := by decide +kernel
theorem dX12_placed_136 : decode cX12_placed 136 = .ok (.iload 6, 2) := by decide +kernel
theorem dX12_placed_138 : decode cX12_placed 138 = .ok (.invokevirtual 282, 3) := by decide +kernel
theorem dX12_placed_141 : decode cX12_placed 141 = .ok (.aload_n 0, 1) := by decide +kernel
theorem dX12_placed_142 : decode cX12_placed 142 = .ok (.iload 6, 2) := by decide +kernel
theorem dX12_placed_144 : decode cX12_placed 144 = .ok (.iconst 1, 1) := by decide +kernel
theorem dX12_placed_145 : decode cX12_placed 145 = .ok (.iadd, 1) := by decide +kernel
theorem dX12_placed_146 : decode cX12_placed 146 = .ok (.invokevirtual 278, 3) := by decide +kernel
theorem dX12_placed_149 : decode cX12_placed 149 = .ok (.aload_n 0, 1) := by decide +kernel
theorem dX12_placed_150 : decode cX12_placed 150 = .ok (.iload 6, 2) := by decide +kernel
theorem dX12_placed_152 : decode cX12_placed 152 = .ok (.iconst 1, 1) := by decide +kernel
theorem dX12_placed_153 : decode cX12_placed 153 = .ok (.iadd, 1) := by decide +kernel
theorem dX12_placed_154 : decode cX12_placed 154 = .ok (.invokevirtual 282, 3) := by decide +kernel
theorem dX12_placed_157 : decode cX12_placed 157 = .ok (.iload_n 2, 1) := by decide +kernel
theorem dX12_placed_158 : decode cX12_placed 158 = .ok (.iload_n 3, 1) := by decide +kernel
theorem dX12_placed_159 : decode cX12_placed 159 = .ok (.invokestatic 285, 3) := by decide +kernel
theorem dX12_placed_162 : decode cX12_placed 162 = .ok (.istore 7, 2) := by decide +kernel
theorem dX12_placed_164 : decode cX12_placed 164 = .ok (.aload_n 0, 1) := by decide +kernel
theorem dX12_placed_165 : decode cX12_placed 165 = .ok (.iload 6, 2) := by decide +kernel
theorem dX12_placed_167 : decode cX12_placed 167 = .ok (.invokevirtual 282, 3) := by decide +kernel
theorem dX12_placed_170 : decode cX12_placed 170 = .ok (.iload_n 3, 1) := by decide +kernel
theorem dX12_placed_171 : decode cX12_placed 171 = .ok (.if_icmp .gt 11, 3) := by decide +kernel
theorem dX12_placed_174 : decode cX12_placed 174 = .ok (.iload 7, 2) := by decide +kernel
theorem dX12_placed_176 : decode cX12_placed 176 = .ok (.ifCond .le 23, 3) := by decide +kernel
theorem dX12_placed_179 : decode cX12_placed 179 = .ok (.goto 8, 3) := by decide +kernel
theorem dX12_placed_182 : decode cX12_placed 182 = .ok (.iload 7, 2) := by decide +kernel
theorem dX12_placed_184 : decode cX12_placed 184 = .ok (.ifCond .ge 15, 3) := by decide +kernel
theorem dX12_placed_187 : decode cX12_placed 187 = .ok (.iload 5, 2) := by decide +kernel
theorem dX12_placed_189 : decode cX12_placed 189 = .ok (.ifCond .ne 7, 3) := by decide +kernel
theorem dX12_placed_192 : decode cX12_placed 192 = .ok (.iconst 1, 1) := by decide +kernel
theorem dX12_placed_193 : decode cX12_placed 193 = .ok (.goto 4, 3) := by decide +kernel
theorem dX12_placed_196 : decode cX12_placed 196 = .ok (.iconst 0, 1) := by decide +kernel
theorem dX12_placed_197 : decode cX12_placed 197 = .ok (.istore 5, 2) := by decide +kernel
theorem dX12_placed_199 : decode cX12_placed 199 = .ok (.iinc 6 1, 3) := by decide +kernel
theorem dX12_placed_202 : decode cX12_placed 202 = .ok (.goto (-133), 3) := by decide +kernel
theorem dX12_placed_205 : decode cX12_placed 205 = .ok (.iload 5, 2) := by decide +kernel
theorem dX12_placed_207 : decode cX12_placed 207 = .ok (.ifCond .eq 7, 3) := by decide +kernel
theorem dX12_placed_210 : decode cX12_placed 210 = .ok (.iconst 1, 1) := by decide +kernel
theorem dX12_placed_211 : decode cX12_placed 211 = .ok (.goto 4, 3) := by decide +kernel
theorem dX12_placed_214 : decode cX12_placed 214 = .ok (.iconst 0, 1) := by decide +kernel
theorem dX12_placed_215 : decode cX12_placed 215 = .ok (.ireturn, 1) := by decide +kernel
def B_M_placed_187 (k69 : Int32 → Int32 → CS → Option (Int32 × CS)) (x2 : Int32) (x3 : Int32) (x5 : Int32) (x6 : Int32) (σ : CS) : Option (Int32 × CS) := if x5 = 0 then k69 1 (x6 + 1) σ else k69 0 (x6 + 1) σ
set_option maxHeartbeats 4000000 in
set_option maxRecDepth 100000 in
theorem w_M_placed_187 (C : Cx g p s m args meth c A 8 cX12_placed yX12_placed.cls) (hr : meth.sig.returnType = (some .int))  {res : Int32 × CS}  (x2 : Int32) (x3 : Int32) (x5 : Int32) (x6 : Int32) {k69 : Int32 → Int32 → CS → Option (Int32 × CS)} (hk69 : ∀ (x5 : Int32) (x6 : Int32) (σ : CS), k69 x5 x6 σ = some res → NMI g p l e s m args below meth c A 3 92 8 am Rr res σ [(0, .ref (am 112)), (2, .int x2), (3, .int x3), (5, .int x5), (6, .int x6)] 69 []) (σ : CS) (h : B_M_placed_187 k69 x2 x3 x5 x6 σ = some res) : NMI g p l e s m args below meth c A 3 92 8 am Rr res σ [(0, .ref (am 112)), (2, .int x2), (3, .int x3), (5, .int x5), (6, .int x6)] 187 [] := by
  unfold B_M_placed_187 at h
  refine nw_iload C dX12_placed_187 3 rfl ?_
  refine nw_if_ne (tgt := 196) C dX12_placed_189 (by decide) h (fun _ h => ?_) (fun _ h => ?_)
  · refine nw_iconst (v := 1) C dX12_placed_192 (by decide) ?_
    refine nw_goto (tgt := 197) C dX12_placed_193 (by decide) ?_
    refine nw_istore (lv' := [(5, .int 1), (0, .ref (am 112)), (2, .int x2), (3, .int x3), (6, .int x6)]) C dX12_placed_197 (by decide) rfl ?_
    refine nw_iinc (lv' := [(6, .int (x6 + 1)), (5, .int 1), (0, .ref (am 112)), (2, .int x2), (3, .int x3)]) C (x6 + 1) dX12_placed_199 4 rfl rfl (by decide) rfl ?_
    refine nw_goto (tgt := 69) C dX12_placed_202 (by decide) ?_
    exact nw_lv (lv' := [(0, .ref (am 112)), (2, .int x2), (3, .int x3), (5, .int 1), (6, .int (x6 + 1))]) [2, 3, 4, 1, 0] rfl (hk69 1 (x6 + 1) _ h)
  · refine nw_iconst (v := 0) C dX12_placed_196 (by decide) ?_
    refine nw_istore (lv' := [(5, .int 0), (0, .ref (am 112)), (2, .int x2), (3, .int x3), (6, .int x6)]) C dX12_placed_197 (by decide) rfl ?_
    refine nw_iinc (lv' := [(6, .int (x6 + 1)), (5, .int 0), (0, .ref (am 112)), (2, .int x2), (3, .int x3)]) C (x6 + 1) dX12_placed_199 4 rfl rfl (by decide) rfl ?_
    refine nw_goto (tgt := 69) C dX12_placed_202 (by decide) ?_
    exact nw_lv (lv' := [(0, .ref (am 112)), (2, .int x2), (3, .int x3), (5, .int 0), (6, .int (x6 + 1))]) [2, 3, 4, 1, 0] rfl (hk69 0 (x6 + 1) _ h)
def B_M_placed_123 (k69 : Int32 → Int32 → CS → Option (Int32 × CS)) (x2 : Int32) (x3 : Int32) (x5 : Int32) (x6 : Int32) (z0 : Int32) (z1 : Int32) (σ : CS) : Option (Int32 × CS) := if z0 = z1 then k69 x5 (x6 + 1) σ else bnd (f_M_x x6 σ) (fun r132 σ132 => bnd (f_M_y x6 σ132) (fun r138 σ138 => bnd (f_M_x (x6 + 1) σ138) (fun r146 σ146 => bnd (f_M_y (x6 + 1) σ146) (fun r154 σ154 => bnd (f_M_turn r132 r138 r146 r154 x2 x3 σ154) (fun r159 σ159 => bnd (f_M_y x6 σ159) (fun r167 σ167 => if x3 < r167 then if 0 ≤ r159 then k69 x5 (x6 + 1) σ167 else B_M_placed_187 k69 x2 x3 x5 x6 σ167 else if r159 ≤ 0 then k69 x5 (x6 + 1) σ167 else B_M_placed_187 k69 x2 x3 x5 x6 σ167))))))
set_option maxHeartbeats 4000000 in
set_option maxRecDepth 100000 in
theorem w_M_placed_123 (C : Cx g p s m args meth c A 8 cX12_placed yX12_placed.cls) (hr : meth.sig.returnType = (some .int))  {res : Int32 × CS}  (x2 : Int32) (x3 : Int32) (x5 : Int32) (x6 : Int32) (z0 : Int32) (z1 : Int32) {k69 : Int32 → Int32 → CS → Option (Int32 × CS)} (hk69 : ∀ (x5 : Int32) (x6 : Int32) (σ : CS), k69 x5 x6 σ = some res → NMI g p l e s m args below meth c A 3 92 8 am Rr res σ [(0, .ref (am 112)), (2, .int x2), (3, .int x3), (5, .int x5), (6, .int x6)] 69 []) (σ : CS) (h : B_M_placed_123 k69 x2 x3 x5 x6 z0 z1 σ = some res) : NMI g p l e s m args below meth c A 3 92 8 am Rr res σ [(0, .ref (am 112)), (2, .int x2), (3, .int x3), (5, .int x5), (6, .int x6)] 123 [.int z1, .int z0] := by
  unfold B_M_placed_123 at h
  refine nw_icmp_ne (tgt := 129) C dX12_placed_123 (by decide) h (fun _ h => ?_) (fun _ h => ?_)
  · refine nw_goto (tgt := 199) C dX12_placed_126 (by decide) ?_
    refine nw_iinc (lv' := [(6, .int (x6 + 1)), (0, .ref (am 112)), (2, .int x2), (3, .int x3), (5, .int x5)]) C (x6 + 1) dX12_placed_199 4 rfl rfl (by decide) rfl ?_
    refine nw_goto (tgt := 69) C dX12_placed_202 (by decide) ?_
    exact nw_lv (lv' := [(0, .ref (am 112)), (2, .int x2), (3, .int x3), (5, .int x5), (6, .int (x6 + 1))]) [1, 2, 3, 4, 0] rfl (hk69 x5 (x6 + 1) _ h)
  · refine nw_aload_n C dX12_placed_129 rfl 0 rfl ?_
    refine nw_iload C dX12_placed_130 4 rfl ?_
    refine nm_callVI (q0 := 0) (As := [.int x6]) (rest := []) C h (fun _ _ e => c_M_x e) tw_1944 kv_X12_x ml_O rfl ⟨Nat.le_of_ble_eq_true rfl, Nat.le_of_ble_eq_true rfl⟩ rfl dX12_placed_132 rfl (Nat.le_of_ble_eq_true rfl) (fun r132 σ132 h => ?_)
    refine nw_aload_n C dX12_placed_135 rfl 0 rfl ?_
    refine nw_iload C dX12_placed_136 4 rfl ?_
    refine nm_callVI (q0 := 0) (As := [.int x6]) (rest := [.int r132]) C h (fun _ _ e => c_M_y e) tw_1948 kv_X12_y ml_O rfl ⟨Nat.le_of_ble_eq_true rfl, Nat.le_of_ble_eq_true rfl⟩ rfl dX12_placed_138 rfl (Nat.le_of_ble_eq_true rfl) (fun r138 σ138 h => ?_)
    refine nw_aload_n C dX12_placed_141 rfl 0 rfl ?_
    refine nw_iload C dX12_placed_142 4 rfl ?_
    refine nw_iconst (v := 1) C dX12_placed_144 (by decide) ?_
    refine nw_iadd C dX12_placed_145 ?_
    refine nm_callVI (q0 := 0) (As := [.int (x6 + 1)]) (rest := [.int r138, .int r132]) C h (fun _ _ e => c_M_x e) tw_1944 kv_X12_x ml_O rfl ⟨Nat.le_of_ble_eq_true rfl, Nat.le_of_ble_eq_true rfl⟩ rfl dX12_placed_146 rfl (Nat.le_of_ble_eq_true rfl) (fun r146 σ146 h => ?_)
    refine nw_aload_n C dX12_placed_149 rfl 0 rfl ?_
    refine nw_iload C dX12_placed_150 4 rfl ?_
    refine nw_iconst (v := 1) C dX12_placed_152 (by decide) ?_
    refine nw_iadd C dX12_placed_153 ?_
    refine nm_callVI (q0 := 0) (As := [.int (x6 + 1)]) (rest := [.int r146, .int r138, .int r132]) C h (fun _ _ e => c_M_y e) tw_1948 kv_X12_y ml_O rfl ⟨Nat.le_of_ble_eq_true rfl, Nat.le_of_ble_eq_true rfl⟩ rfl dX12_placed_154 rfl (Nat.le_of_ble_eq_true rfl) (fun r154 σ154 h => ?_)
    refine nw_iload_n C dX12_placed_157 rfl 1 rfl ?_
    refine nw_iload_n C dX12_placed_158 rfl 2 rfl ?_
    refine nm_callSI  (As := [.int r132, .int r138, .int r146, .int r154, .int x2, .int x3]) (rest := []) C h (fun _ _ e => c_M_turn e) tw_1956 ks_X12_turn ⟨Nat.le_of_ble_eq_true rfl, Nat.le_of_ble_eq_true rfl⟩ rfl dX12_placed_159 rfl (Nat.le_of_ble_eq_true rfl) (fun r159 σ159 h => ?_)
    refine nw_istore (lv' := [(7, .int r159), (0, .ref (am 112)), (2, .int x2), (3, .int x3), (5, .int x5), (6, .int x6)]) C dX12_placed_162 (by decide) rfl ?_
    refine nw_aload_n C dX12_placed_164 rfl 1 rfl ?_
    refine nw_iload C dX12_placed_165 5 rfl ?_
    refine nm_callVI (q0 := 0) (As := [.int x6]) (rest := []) C h (fun _ _ e => c_M_y e) tw_1948 kv_X12_y ml_O rfl ⟨Nat.le_of_ble_eq_true rfl, Nat.le_of_ble_eq_true rfl⟩ rfl dX12_placed_167 rfl (Nat.le_of_ble_eq_true rfl) (fun r167 σ167 h => ?_)
    refine nw_iload_n C dX12_placed_170 rfl 3 rfl ?_
    refine nw_icmp_gt (tgt := 182) C dX12_placed_171 (by decide) h (fun _ h => ?_) (fun _ h => ?_)
    · refine nw_iload C dX12_placed_182 0 rfl ?_
      refine nw_if_ge (tgt := 199) C dX12_placed_184 (by decide) h (fun _ h => ?_) (fun _ h => ?_)
      · refine nw_iinc (lv' := [(6, .int (x6 + 1)), (7, .int r159), (0, .ref (am 112)), (2, .int x2), (3, .int x3), (5, .int x5)]) C (x6 + 1) dX12_placed_199 5 rfl rfl (by decide) rfl ?_
        refine nw_goto (tgt := 69) C dX12_placed_202 (by decide) ?_
        exact nw_lv (lv' := [(0, .ref (am 112)), (2, .int x2), (3, .int x3), (5, .int x5), (6, .int (x6 + 1))]) [2, 3, 4, 5, 0] rfl (hk69 x5 (x6 + 1) _ h)
      · exact nw_lv (lv' := [(0, .ref (am 112)), (2, .int x2), (3, .int x3), (5, .int x5), (6, .int x6)]) [1, 2, 3, 4, 5] rfl (w_M_placed_187 C hr x2 x3 x5 x6 hk69 _ h)
    · refine nw_iload C dX12_placed_174 0 rfl ?_
      refine nw_if_le (tgt := 199) C dX12_placed_176 (by decide) h (fun _ h => ?_) (fun _ h => ?_)
      · refine nw_iinc (lv' := [(6, .int (x6 + 1)), (7, .int r159), (0, .ref (am 112)), (2, .int x2), (3, .int x3), (5, .int x5)]) C (x6 + 1) dX12_placed_199 5 rfl rfl (by decide) rfl ?_
        refine nw_goto (tgt := 69) C dX12_placed_202 (by decide) ?_
        exact nw_lv (lv' := [(0, .ref (am 112)), (2, .int x2), (3, .int x3), (5, .int x5), (6, .int (x6 + 1))]) [2, 3, 4, 5, 0] rfl (hk69 x5 (x6 + 1) _ h)
      · refine nw_goto (tgt := 187) C dX12_placed_179 (by decide) ?_
        exact nw_lv (lv' := [(0, .ref (am 112)), (2, .int x2), (3, .int x3), (5, .int x5), (6, .int x6)]) [1, 2, 3, 4, 5] rfl (w_M_placed_187 C hr x2 x3 x5 x6 hk69 _ h)
def B_M_placed_106 (k69 : Int32 → Int32 → CS → Option (Int32 × CS)) (x2 : Int32) (x3 : Int32) (x5 : Int32) (x6 : Int32) (z0 : Int32) (σ : CS) : Option (Int32 × CS) := bnd (f_M_y (x6 + 1) σ) (fun r111 σ111 => if x3 < r111 then B_M_placed_123 k69 x2 x3 x5 x6 z0 0 σ111 else B_M_placed_123 k69 x2 x3 x5 x6 z0 1 σ111)
set_option maxHeartbeats 4000000 in
set_option maxRecDepth 100000 in
theorem w_M_placed_106 (C : Cx g p s m args meth c A 8 cX12_placed yX12_placed.cls) (hr : meth.sig.returnType = (some .int))  {res : Int32 × CS}  (x2 : Int32) (x3 : Int32) (x5 : Int32) (x6 : Int32) (z0 : Int32) {k69 : Int32 → Int32 → CS → Option (Int32 × CS)} (hk69 : ∀ (x5 : Int32) (x6 : Int32) (σ : CS), k69 x5 x6 σ = some res → NMI g p l e s m args below meth c A 3 92 8 am Rr res σ [(0, .ref (am 112)), (2, .int x2), (3, .int x3), (5, .int x5), (6, .int x6)] 69 []) (σ : CS) (h : B_M_placed_106 k69 x2 x3 x5 x6 z0 σ = some res) : NMI g p l e s m args below meth c A 3 92 8 am Rr res σ [(0, .ref (am 112)), (2, .int x2), (3, .int x3), (5, .int x5), (6, .int x6)] 106 [.int z0] := by
  unfold B_M_placed_106 at h
  refine nw_aload_n C dX12_placed_106 rfl 0 rfl ?_
  refine nw_iload C dX12_placed_107 4 rfl ?_
  refine nw_iconst (v := 1) C dX12_placed_109 (by decide) ?_
  refine nw_iadd C dX12_placed_110 ?_
  refine nm_callVI (q0 := 0) (As := [.int (x6 + 1)]) (rest := [.int z0]) C h (fun _ _ e => c_M_y e) tw_1948 kv_X12_y ml_O rfl ⟨Nat.le_of_ble_eq_true rfl, Nat.le_of_ble_eq_true rfl⟩ rfl dX12_placed_111 rfl (Nat.le_of_ble_eq_true rfl) (fun r111 σ111 h => ?_)
  refine nw_iload_n C dX12_placed_114 rfl 2 rfl ?_
  refine nw_icmp_gt (tgt := 122) C dX12_placed_115 (by decide) h (fun _ h => ?_) (fun _ h => ?_)
  · refine nw_iconst (v := 0) C dX12_placed_122 (by decide) ?_
    exact nw_lv (lv' := [(0, .ref (am 112)), (2, .int x2), (3, .int x3), (5, .int x5), (6, .int x6)]) [0, 1, 2, 3, 4] rfl (w_M_placed_123 C hr x2 x3 x5 x6 z0 0 hk69 _ h)
  · refine nw_iconst (v := 1) C dX12_placed_118 (by decide) ?_
    refine nw_goto (tgt := 123) C dX12_placed_119 (by decide) ?_
    exact nw_lv (lv' := [(0, .ref (am 112)), (2, .int x2), (3, .int x3), (5, .int x5), (6, .int x6)]) [0, 1, 2, 3, 4] rfl (w_M_placed_123 C hr x2 x3 x5 x6 z0 1 hk69 _ h)
def L_M_placed_69 (k205 : Int32 → CS → Option (Int32 × CS)) (x2 : Int32) (x3 : Int32) : Nat → Int32 → Int32 → CS → Option (Int32 × CS)
  | 0, _, _, _ => none
  | n + 1, x5, x6, σ => if (σ.1 9) ≤ x6 then k205 x5 σ else bnd (f_M_isNear x6 x2 x3 σ) (fun r83 σ83 => if r83 = 0 then bnd (f_M_y x6 σ83) (fun r94 σ94 => if x3 < r94 then B_M_placed_106 (L_M_placed_69 k205 x2 x3 n) x2 x3 x5 x6 0 σ94 else B_M_placed_106 (L_M_placed_69 k205 x2 x3 n) x2 x3 x5 x6 1 σ94) else some (2, σ83))
set_option maxHeartbeats 4000000 in
set_option maxRecDepth 100000 in
theorem w_M_placed_69 (C : Cx g p s m args meth c A 8 cX12_placed yX12_placed.cls) (hr : meth.sig.returnType = (some .int))  {res : Int32 × CS}  (x2 : Int32) (x3 : Int32) {k205 : Int32 → CS → Option (Int32 × CS)} (hk205 : ∀ (x5 : Int32) (σ : CS), k205 x5 σ = some res → NMI g p l e s m args below meth c A 3 92 8 am Rr res σ [(5, .int x5)] 205 []) : ∀ (n : Nat) (x5 : Int32) (x6 : Int32) (σ : CS), L_M_placed_69 k205 x2 x3 n x5 x6 σ = some res → NMI g p l e s m args below meth c A 3 92 8 am Rr res σ [(0, .ref (am 112)), (2, .int x2), (3, .int x3), (5, .int x5), (6, .int x6)] 69 [] := by
  intro n
  induction n with
  | zero =>
    intro x5 x6 σ h
    exact absurd (show (none : Option (Int32 × CS)) = some res from h) (by intro h9; cases h9)
  | succ n ih =>
    intro x5 x6 σ h
    rw [L_M_placed_69] at h
    refine nw_iload C dX12_placed_69 4 rfl ?_
    refine nw_aload_n C dX12_placed_71 rfl 0 rfl ?_
    refine nw_get (v := .int (σ.1 9)) C in_X12 0 ml_O rfl 9 (by decide) tw_1582 rfl mf_9 dX12_placed_72 ?_
    refine nw_icmp_ge (tgt := 205) C dX12_placed_75 (by decide) h (fun _ h => ?_) (fun _ h => ?_)
    · exact nw_lv (lv' := [(5, .int x5)]) [3] rfl (hk205 x5 _ h)
    · refine nw_aload_n C dX12_placed_78 rfl 0 rfl ?_
      refine nw_iload C dX12_placed_79 4 rfl ?_
      refine nw_iload_n C dX12_placed_81 rfl 1 rfl ?_
      refine nw_iload_n C dX12_placed_82 rfl 2 rfl ?_
      refine nm_callVI (q0 := 0) (As := [.int x6, .int x2, .int x3]) (rest := []) C h (fun _ _ e => c_M_isNear e) tw_1990 kv_X12_isNear ml_O rfl ⟨Nat.le_of_ble_eq_true rfl, Nat.le_of_ble_eq_true rfl⟩ rfl dX12_placed_83 rfl (Nat.le_of_ble_eq_true rfl) (fun r83 σ83 h => ?_)
      refine nw_if_eq (tgt := 91) C dX12_placed_86 (by decide) h (fun _ h => ?_) (fun _ h => ?_)
      · refine nw_aload_n C dX12_placed_91 rfl 0 rfl ?_
        refine nw_iload C dX12_placed_92 4 rfl ?_
        refine nm_callVI (q0 := 0) (As := [.int x6]) (rest := []) C h (fun _ _ e => c_M_y e) tw_1948 kv_X12_y ml_O rfl ⟨Nat.le_of_ble_eq_true rfl, Nat.le_of_ble_eq_true rfl⟩ rfl dX12_placed_94 rfl (Nat.le_of_ble_eq_true rfl) (fun r94 σ94 h => ?_)
        refine nw_iload_n C dX12_placed_97 rfl 2 rfl ?_
        refine nw_icmp_gt (tgt := 105) C dX12_placed_98 (by decide) h (fun _ h => ?_) (fun _ h => ?_)
        · refine nw_iconst (v := 0) C dX12_placed_105 (by decide) ?_
          exact nw_lv (lv' := [(0, .ref (am 112)), (2, .int x2), (3, .int x3), (5, .int x5), (6, .int x6)]) [0, 1, 2, 3, 4] rfl (w_M_placed_106 C hr x2 x3 x5 x6 0 ih _ h)
        · refine nw_iconst (v := 1) C dX12_placed_101 (by decide) ?_
          refine nw_goto (tgt := 106) C dX12_placed_102 (by decide) ?_
          exact nw_lv (lv' := [(0, .ref (am 112)), (2, .int x2), (3, .int x3), (5, .int x5), (6, .int x6)]) [0, 1, 2, 3, 4] rfl (w_M_placed_106 C hr x2 x3 x5 x6 1 ih _ h)
      · refine nw_iconst (v := 2) C dX12_placed_89 (by decide) ?_
        exact nm_iret C hr dX12_placed_90 h
def L_M_placed_28 (k205 : Int32 → CS → Option (Int32 × CS)) (x2 : Int32) (x3 : Int32) (x4 : Int32) : Nat → Int32 → CS → Option (Int32 × CS)
  | 0, _, _ => none
  | n + 1, x5, σ => if (σ.1 9) ≤ x5 then L_M_placed_69 k205 x2 x3 FU 0 0 σ else gix ((10 * x4) + x5) 120 (gix x5 10 ((L_M_placed_28 k205 x2 x3 x4 n) (x5 + 1) (wr σ 8 x5 (rd σ 12 ((10 * x4) + x5)))))
set_option maxHeartbeats 4000000 in
set_option maxRecDepth 100000 in
theorem w_M_placed_28 (C : Cx g p s m args meth c A 8 cX12_placed yX12_placed.cls) (hr : meth.sig.returnType = (some .int))  {res : Int32 × CS}  (x2 : Int32) (x3 : Int32) (x4 : Int32) {k205 : Int32 → CS → Option (Int32 × CS)} (hk205 : ∀ (x5 : Int32) (σ : CS), k205 x5 σ = some res → NMI g p l e s m args below meth c A 3 92 8 am Rr res σ [(5, .int x5)] 205 []) : ∀ (n : Nat) (x5 : Int32) (σ : CS), L_M_placed_28 k205 x2 x3 x4 n x5 σ = some res → NMI g p l e s m args below meth c A 3 92 8 am Rr res σ [(0, .ref (am 112)), (2, .int x2), (3, .int x3), (4, .int x4), (5, .int x5)] 28 [] := by
  intro n
  induction n with
  | zero =>
    intro x5 σ h
    exact absurd (show (none : Option (Int32 × CS)) = some res from h) (by intro h9; cases h9)
  | succ n ih =>
    intro x5 σ h
    rw [L_M_placed_28] at h
    refine nw_iload C dX12_placed_28 4 rfl ?_
    refine nw_aload_n C dX12_placed_30 rfl 0 rfl ?_
    refine nw_get (v := .int (σ.1 9)) C in_X12 0 ml_O rfl 9 (by decide) tw_1582 rfl mf_9 dX12_placed_31 ?_
    refine nw_icmp_ge (tgt := 63) C dX12_placed_34 (by decide) h (fun _ h => ?_) (fun _ h => ?_)
    · refine nw_iconst (v := 0) C dX12_placed_63 (by decide) ?_
      refine nw_istore (lv' := [(5, .int 0), (0, .ref (am 112)), (2, .int x2), (3, .int x3), (4, .int x4)]) C dX12_placed_64 (by decide) rfl ?_
      refine nw_iconst (v := 0) C dX12_placed_66 (by decide) ?_
      refine nw_istore (lv' := [(6, .int 0), (5, .int 0), (0, .ref (am 112)), (2, .int x2), (3, .int x3), (4, .int x4)]) C dX12_placed_67 (by decide) rfl ?_
      exact nw_lv (lv' := [(0, .ref (am 112)), (2, .int x2), (3, .int x3), (5, .int 0), (6, .int 0)]) [2, 3, 4, 1, 0] rfl (w_M_placed_69 C hr x2 x3 hk205 FU 0 0 _ h)
    · refine nw_aload_n C dX12_placed_37 rfl 0 rfl ?_
      refine nw_get (v := .ref (am 8)) C in_X12 0 ml_O rfl 8 (by decide) tw_1581 rfl mf_8 dX12_placed_38 ?_
      refine nw_iload C dX12_placed_41 4 rfl ?_
      refine nw_aload_n C dX12_placed_43 rfl 0 rfl ?_
      refine nw_get (v := .ref (am 12)) C in_X12 0 ml_O rfl 12 (by decide) tw_1585 rfl mf_12 dX12_placed_44 ?_
      refine nw_bipush (v := 10) C dX12_placed_47 (by decide) ?_
      refine nw_iload C dX12_placed_49 3 rfl ?_
      refine nw_imul C dX12_placed_51 ?_
      refine nw_iload C dX12_placed_52 4 rfl ?_
      refine nw_iadd C dX12_placed_54 ?_
      refine nw_iald C 6 ml_12 dX12_placed_55 h (fun h => ?_)
      refine nw_iast C 5 ml_8 dX12_placed_56 h ms_8 (fun h => ?_)
      refine nw_iinc (lv' := [(5, .int (x5 + 1)), (0, .ref (am 112)), (2, .int x2), (3, .int x3), (4, .int x4)]) C (x5 + 1) dX12_placed_57 4 rfl rfl (by decide) rfl ?_
      refine nw_goto (tgt := 28) C dX12_placed_60 (by decide) ?_
      exact nw_lv (lv' := [(0, .ref (am 112)), (2, .int x2), (3, .int x3), (4, .int x4), (5, .int (x5 + 1))]) [1, 2, 3, 4, 0] rfl (ih (x5 + 1) _ h)
def B_M_placed_205   (x5 : Int32) (σ : CS) : Option (Int32 × CS) := if x5 = 0 then some (0, σ) else some (1, σ)
set_option maxHeartbeats 4000000 in
set_option maxRecDepth 100000 in
theorem w_M_placed_205 (C : Cx g p s m args meth c A 8 cX12_placed yX12_placed.cls) (hr : meth.sig.returnType = (some .int))  {res : Int32 × CS}   (x5 : Int32)  (σ : CS) (h : B_M_placed_205 x5 σ = some res) : NMI g p l e s m args below meth c A 3 92 8 am Rr res σ [(5, .int x5)] 205 [] := by
  unfold B_M_placed_205 at h
  refine nw_iload C dX12_placed_205 0 rfl ?_
  refine nw_if_eq (tgt := 214) C dX12_placed_207 (by decide) h (fun _ h => ?_) (fun _ h => ?_)
  · refine nw_iconst (v := 0) C dX12_placed_214 (by decide) ?_
    exact nm_iret C hr dX12_placed_215 h
  · refine nw_iconst (v := 1) C dX12_placed_210 (by decide) ?_
    refine nw_goto (tgt := 215) C dX12_placed_211 (by decide) ?_
    exact nm_iret C hr dX12_placed_215 h
def f_M_placed (p0 : Int32) (p1 : Int32) (p2 : Int32) (σ : CS) : Option (Int32 × CS) := bnd (f_M_boundsOf p0 σ) (fun r2 σ2 => if 0 ≤ r2 then gix r2 12 (L_M_placed_28 (B_M_placed_205) p1 p2 r2 FU 0 (sF σ2 9 (rd σ2 13 r2))) else some (0, σ2))
set_option maxHeartbeats 4000000 in
set_option maxRecDepth 100000 in
theorem c_M_placed {l : Launch} {g : EG} {am : Nat → Nat} {Rr : va_W} {σ σ' : CS} {r : Int32} {p0 : Int32} {p1 : Int32} {p2 : Int32}  (h : f_M_placed p0 p1 p2 σ = some (r, σ')) : CmI l g yX12_placed (.code yX12_placed cX12_placed 8 (some .int)) 3 92 am Rr σ [.ref (am 112), .int p0, .int p1, .int p2] r σ' := by
  refine Ct.of rfl (by decide) (Nat.le_of_ble_eq_true rfl) ?_
  intro p e s m args below meth c A C hr
  show NMI g p l e s m args below meth c A 3 92 8 am Rr (r, σ') σ [(0, .ref (am 112)), (1, .int p0), (2, .int p1), (3, .int p2)] 0 []
  unfold f_M_placed at h
  refine nw_aload_n C dX12_placed_0 rfl 0 rfl ?_
  refine nw_iload_n C dX12_placed_1 rfl 1 rfl ?_
  refine nm_callVI (q0 := 0) (As := [.int p0]) (rest := []) C h (fun _ _ e => c_M_boundsOf e) tw_1978 kv_X12_boundsOf ml_O rfl ⟨Nat.le_of_ble_eq_true rfl, Nat.le_of_ble_eq_true rfl⟩ rfl dX12_placed_2 rfl (Nat.le_of_ble_eq_true rfl) (fun r2 σ2 h => ?_)
  refine nw_istore (lv' := [(4, .int r2), (0, .ref (am 112)), (1, .int p0), (2, .int p1), (3, .int p2)]) C dX12_placed_5 (by decide) rfl ?_
  refine nw_iload C dX12_placed_7 0 rfl ?_
  refine nw_if_ge (tgt := 14) C dX12_placed_9 (by decide) h (fun _ h => ?_) (fun _ h => ?_)
  · refine nw_aload_n C dX12_placed_14 rfl 1 rfl ?_
    refine nw_aload_n C dX12_placed_15 rfl 1 rfl ?_
    refine nw_get (v := .ref (am 13)) C in_X12 0 ml_O rfl 13 (by decide) tw_1586 rfl mf_13 dX12_placed_16 ?_
    refine nw_iload C dX12_placed_19 0 rfl ?_
    refine nw_iald C 7 ml_13 dX12_placed_21 h (fun h => ?_)
    refine nw_put (ty := .int) C in_X12 0 ml_O rfl 9 (by decide) tyX12 tyX12_ok nmX12 tw_1582 rfl rfl (by decide +kernel) rfl rfl (Nat.le_of_ble_eq_true rfl) dX12_placed_22 ms_9 ?_
    refine nw_iconst (v := 0) C dX12_placed_25 (by decide) ?_
    refine nw_istore (lv' := [(5, .int 0), (4, .int r2), (0, .ref (am 112)), (1, .int p0), (2, .int p1), (3, .int p2)]) C dX12_placed_26 (by decide) rfl ?_
    exact nw_lv (lv' := [(0, .ref (am 112)), (2, .int p1), (3, .int p2), (4, .int r2), (5, .int 0)]) [2, 4, 5, 1, 0] rfl (w_M_placed_28 C hr p1 p2 r2 (fun x5_ σ_ h_ => w_M_placed_205 C hr x5_ σ_ h_) FU 0 _ h)
  · refine nw_iconst (v := 0) C dX12_placed_12 (by decide) ?_
    exact nm_iret C hr dX12_placed_13 h
theorem dX12_where_0 : decode cX12_where 0 = .ok (.aload_n 0, 1) := by decide +kernel
theorem dX12_where_1 : decode cX12_where 1 = .ok (.iconst 0, 1) := by decide +kernel
theorem dX12_where_2 : decode cX12_where 2 = .ok (.putfield 253, 3) := by decide +kernel
theorem dX12_where_5 : decode cX12_where 5 = .ok (.aload_n 0, 1) := by decide +kernel
theorem dX12_where_6 : decode cX12_where 6 = .ok (.iload_n 1, 1) := by decide +kernel
theorem dX12_where_7 : decode cX12_where 7 = .ok (.invokestatic 298, 3) := by decide +kernel
theorem dX12_where_10 : decode cX12_where 10 = .ok (.ifCond .eq 11, 3) := by decide +kernel
theorem dX12_where_13 : decode cX12_where 13 = .ok (.iload_n 2, 1) := by decide +kernel
theorem dX12_where_14 : decode cX12_where 14 = .ok (.iload_n 3, 1) := by decide +kernel
theorem dX12_where_15 : decode cX12_where 15 = .ok (.invokestatic 261, 3) := by decide +kernel
theorem dX12_where_18 : decode cX12_where 18 = .ok (.ifCond .ne 7, 3) := by decide +kernel
theorem dX12_where_21 : decode cX12_where 21 = .ok (.iconst 1, 1) := by decide +kernel
theorem dX12_where_22 : decode cX12_where 22 = .ok (.goto 4, 3) := by decide +kernel
theorem dX12_where_25 : decode cX12_where 25 = .ok (.iconst 0, 1) := by decide +kernel
theorem dX12_where_26 : decode cX12_where 26 = .ok (.iconst 1, 1) := by decide +kernel
theorem dX12_where_27 : decode cX12_where 27 = .ok (.invokevirtual 265, 3) := by decide +kernel
theorem dX12_where_30 : decode cX12_where 30 = .ok (.ifCond .eq 7, 3) := by decide +kernel
theorem dX12_where_33 : decode cX12_where 33 = .ok (.iconst 0, 1) := by decide +kernel
theorem dX12_where_34 : decode cX12_where 34 = .ok (.goto 10, 3) := by decide +kernel
theorem dX12_where_37 : decode cX12_where 37 = .ok (.aload_n 0, 1) := by decide +kernel
theorem dX12_where_38 : decode cX12_where 38 = .ok (.iload_n 1, 1) := by decide +kernel
theorem dX12_where_39 : decode cX12_where 39 = .ok (.iload_n 2, 1) := by decide +kernel
theorem dX12_where_40 : decode cX12_where 40 = .ok (.iload_n 3, 1) := by decide +kernel
theorem dX12_where_41 : decode cX12_where 41 = .ok (.invokevirtual 318, 3) := by decide +kernel
theorem dX12_where_44 : decode cX12_where 44 = .ok (.ireturn, 1) := by decide +kernel
def B_M_where_26   (x1 : Int32) (x2 : Int32) (x3 : Int32) (z1 : Int32) (σ : CS) : Option (Int32 × CS) := bnd (f_M_bad z1 1 σ) (fun r27 σ27 => if r27 = 0 then bnd (f_M_placed x1 x2 x3 σ27) (fun r41 σ41 => some (r41, σ41)) else some (0, σ27))
set_option maxHeartbeats 4000000 in
set_option maxRecDepth 100000 in
theorem w_M_where_26 (C : Cx g p s m args meth c A 4 cX12_where yX12_where.cls) (hr : meth.sig.returnType = (some .int))  {res : Int32 × CS}   (x1 : Int32) (x2 : Int32) (x3 : Int32) (z1 : Int32)  (σ : CS) (h : B_M_where_26 x1 x2 x3 z1 σ = some res) : NMI g p l e s m args below meth c A 4 119 4 am Rr res σ [(0, .ref (am 112)), (1, .int x1), (2, .int x2), (3, .int x3)] 26 [.int z1, .ref (am 112)] := by
  unfold B_M_where_26 at h
  refine nw_iconst (v := 1) C dX12_where_26 (by decide) ?_
  refine nm_callVI (q0 := 0) (As := [.int z1, .int 1]) (rest := []) C h (fun _ _ e => c_M_bad e) tw_1924 kv_X12_bad ml_O rfl ⟨Nat.le_of_ble_eq_true rfl, Nat.le_of_ble_eq_true rfl⟩ rfl dX12_where_27 rfl (Nat.le_of_ble_eq_true rfl) (fun r27 σ27 h => ?_)
  refine nw_if_eq (tgt := 37) C dX12_where_30 (by decide) h (fun _ h => ?_) (fun _ h => ?_)
  · refine nw_aload_n C dX12_where_37 rfl 0 rfl ?_
    refine nw_iload_n C dX12_where_38 rfl 1 rfl ?_
    refine nw_iload_n C dX12_where_39 rfl 2 rfl ?_
    refine nw_iload_n C dX12_where_40 rfl 3 rfl ?_
    refine nm_callVI (q0 := 0) (As := [.int x1, .int x2, .int x3]) (rest := []) C h (fun _ _ e => c_M_placed e) tw_1986 kv_X12_placed ml_O rfl ⟨Nat.le_of_ble_eq_true rfl, Nat.le_of_ble_eq_true rfl⟩ rfl dX12_where_41 rfl (Nat.le_of_ble_eq_true rfl) (fun r41 σ41 h => ?_)
    exact nm_iret C hr dX12_where_44 h
  · refine nw_iconst (v := 0) C dX12_where_33 (by decide) ?_
    refine nw_goto (tgt := 44) C dX12_where_34 (by decide) ?_
    exact nm_iret C hr dX12_where_44 h
def f_M_where (p0 : Int32) (p1 : Int32) (p2 : Int32) (σ : CS) : Option (Int32 × CS) := bnd (f_M_isDay p0 (sF σ 0 0)) (fun r7 σ7 => if r7 = 0 then B_M_where_26 p0 p1 p2 1 σ7 else bnd (f_M_isPlace p1 p2 σ7) (fun r15 σ15 => if r15 = 0 then B_M_where_26 p0 p1 p2 1 σ15 else B_M_where_26 p0 p1 p2 0 σ15))
set_option maxHeartbeats 4000000 in
set_option maxRecDepth 100000 in
theorem c_M_where {l : Launch} {g : EG} {am : Nat → Nat} {Rr : va_W} {σ σ' : CS} {r : Int32} {p0 : Int32} {p1 : Int32} {p2 : Int32}  (h : f_M_where p0 p1 p2 σ = some (r, σ')) : CmI l g yX12_where (.code yX12_where cX12_where 4 (some .int)) 4 119 am Rr σ [.ref (am 112), .int p0, .int p1, .int p2] r σ' := by
  refine Ct.of rfl (by decide) (Nat.le_of_ble_eq_true rfl) ?_
  intro p e s m args below meth c A C hr
  show NMI g p l e s m args below meth c A 4 119 4 am Rr (r, σ') σ [(0, .ref (am 112)), (1, .int p0), (2, .int p1), (3, .int p2)] 0 []
  unfold f_M_where at h
  refine nw_aload_n C dX12_where_0 rfl 0 rfl ?_
  refine nw_iconst (v := 0) C dX12_where_1 (by decide) ?_
  refine nw_put (ty := .int) C in_X12 0 ml_O rfl 0 (by decide) tyX12 tyX12_ok nmX12 tw_1573 rfl rfl (by decide +kernel) rfl rfl (Nat.le_of_ble_eq_true rfl) dX12_where_2 ms_0 ?_
  refine nw_aload_n C dX12_where_5 rfl 0 rfl ?_
  refine nw_iload_n C dX12_where_6 rfl 1 rfl ?_
  refine nm_callSI  (As := [.int p0]) (rest := [.ref (am 112)]) C h (fun _ _ e => c_M_isDay e) tw_1936 ks_X12_isDay ⟨Nat.le_of_ble_eq_true rfl, Nat.le_of_ble_eq_true rfl⟩ rfl dX12_where_7 rfl (Nat.le_of_ble_eq_true rfl) (fun r7 σ7 h => ?_)
  refine nw_if_eq (tgt := 21) C dX12_where_10 (by decide) h (fun _ h => ?_) (fun _ h => ?_)
  · refine nw_iconst (v := 1) C dX12_where_21 (by decide) ?_
    refine nw_goto (tgt := 26) C dX12_where_22 (by decide) ?_
    exact nw_lv (lv' := [(0, .ref (am 112)), (1, .int p0), (2, .int p1), (3, .int p2)]) [0, 1, 2, 3] rfl (w_M_where_26 C hr p0 p1 p2 1 _ h)
  · refine nw_iload_n C dX12_where_13 rfl 2 rfl ?_
    refine nw_iload_n C dX12_where_14 rfl 3 rfl ?_
    refine nm_callSI  (As := [.int p1, .int p2]) (rest := [.ref (am 112)]) C h (fun _ _ e => c_M_isPlace e) tw_1921 ks_X12_isPlace ⟨Nat.le_of_ble_eq_true rfl, Nat.le_of_ble_eq_true rfl⟩ rfl dX12_where_15 rfl (Nat.le_of_ble_eq_true rfl) (fun r15 σ15 h => ?_)
    refine nw_if_ne (tgt := 25) C dX12_where_18 (by decide) h (fun _ h => ?_) (fun _ h => ?_)
    · refine nw_iconst (v := 1) C dX12_where_21 (by decide) ?_
      refine nw_goto (tgt := 26) C dX12_where_22 (by decide) ?_
      exact nw_lv (lv' := [(0, .ref (am 112)), (1, .int p0), (2, .int p1), (3, .int p2)]) [0, 1, 2, 3] rfl (w_M_where_26 C hr p0 p1 p2 1 _ h)
    · refine nw_iconst (v := 0) C dX12_where_25 (by decide) ?_
      exact nw_lv (lv' := [(0, .ref (am 112)), (1, .int p0), (2, .int p1), (3, .int p2)]) [0, 1, 2, 3] rfl (w_M_where_26 C hr p0 p1 p2 0 _ h)
theorem dX12_sides_0 : decode cX12_sides 0 = .ok (.iconst 0, 1) := by decide +kernel
theorem dX12_sides_1 : decode cX12_sides 1 = .ok (.istore_n 1, 1) := by decide +kernel
theorem dX12_sides_2 : decode cX12_sides 2 = .ok (.iconst 0, 1) := by decide +kernel
theorem dX12_sides_3 : decode cX12_sides 3 = .ok (.istore_n 2, 1) := by decide +kernel
theorem dX12_sides_4 : decode cX12_sides 4 = .ok (.iload_n 2, 1) := by decide +kernel
theorem dX12_sides_5 : decode cX12_sides 5 = .ok (.aload_n 0, 1) := by decide +kernel
theorem dX12_sides_6 : decode cX12_sides 6 = .ok (.getfield 275, 3) := by decide +kernel
theorem dX12_sides_9 : decode cX12_sides 9 = .ok (.if_icmp .ge 45, 3) := by decide +kernel
theorem dX12_sides_12 : decode cX12_sides 12 = .ok (.iload_n 1, 1) := by decide +kernel
theorem dX12_sides_13 : decode cX12_sides 13 = .ok (.aload_n 0, 1) := by decide +kernel
theorem dX12_sides_14 : decode cX12_sides 14 = .ok (.iload_n 2, 1) := by decide +kernel
theorem dX12_sides_15 : decode cX12_sides 15 = .ok (.invokevirtual 278, 3) := by decide +kernel
theorem dX12_sides_18 : decode cX12_sides 18 = .ok (.aload_n 0, 1) := by decide +kernel
theorem dX12_sides_19 : decode cX12_sides 19 = .ok (.iload_n 2, 1) := by decide +kernel
theorem dX12_sides_20 : decode cX12_sides 20 = .ok (.iconst 1, 1) := by decide +kernel
theorem dX12_sides_21 : decode cX12_sides 21 = .ok (.iadd, 1) := by decide +kernel
theorem dX12_sides_22 : decode cX12_sides 22 = .ok (.invokevirtual 278, 3) := by decide +kernel
theorem dX12_sides_25 : decode cX12_sides 25 = .ok (.isub, 1) := by decide +kernel
theorem dX12_sides_26 : decode cX12_sides 26 = .ok (.invokestatic 322, 3) := by decide +kernel
theorem dX12_sides_29 : decode cX12_sides 29 = .ok (.aload_n 0, 1) := by decide +kernel
theorem dX12_sides_30 : decode cX12_sides 30 = .ok (.iload_n 2, 1) := by decide +kernel
theorem dX12_sides_31 : decode cX12_sides 31 = .ok (.invokevirtual 282, 3) := by decide +kernel
theorem dX12_sides_34 : decode cX12_sides 34 = .ok (.aload_n 0, 1) := by decide +kernel
theorem dX12_sides_35 : decode cX12_sides 35 = .ok (.iload_n 2, 1) := by decide +kernel
theorem dX12_sides_36 : decode cX12_sides 36 = .ok (.iconst 1, 1) := by decide +kernel
theorem dX12_sides_37 : decode cX12_sides 37 = .ok (.iadd, 1) := by decide +kernel
theorem dX12_sides_38 : decode cX12_sides 38 = .ok (.invokevirtual 282, 3) := by decide +kernel
theorem dX12_sides_41 : decode cX12_sides 41 = .ok (.isub, 1) := by decide +kernel
theorem dX12_sides_42 : decode cX12_sides 42 = .ok (.invokestatic 322, 3) := by decide +kernel
theorem dX12_sides_45 : decode cX12_sides 45 = .ok (.iadd, 1) := by decide +kernel
theorem dX12_sides_46 : decode cX12_sides 46 = .ok (.iadd, 1) := by decide +kernel
theorem dX12_sides_47 : decode cX12_sides 47 = .ok (.istore_n 1, 1) := by decide +kernel
theorem dX12_sides_48 : decode cX12_sides 48 = .ok (.iinc 2 1, 3) := by decide +kernel
theorem dX12_sides_51 : decode cX12_sides 51 = .ok (.goto (-47), 3) := by decide +kernel
theorem dX12_sides_54 : decode cX12_sides 54 = .ok (.iload_n 1, 1) := by decide +kernel
theorem dX12_sides_55 : decode cX12_sides 55 = .ok (.ireturn, 1) := by decide +kernel
def L_M_sides_4   : Nat → Int32 → Int32 → CS → Option (Int32 × CS)
  | 0, _, _, _ => none
  | n + 1, x1, x2, σ => if (σ.1 9) ≤ x2 then some (x1, σ) else bnd (f_M_x x2 σ) (fun r15 σ15 => bnd (f_M_x (x2 + 1) σ15) (fun r22 σ22 => bnd (f_M_size (r15 - r22) σ22) (fun r26 σ26 => bnd (f_M_y x2 σ26) (fun r31 σ31 => bnd (f_M_y (x2 + 1) σ31) (fun r38 σ38 => bnd (f_M_size (r31 - r38) σ38) (fun r42 σ42 => (L_M_sides_4 n) (x1 + (r26 + r42)) (x2 + 1) σ42))))))
set_option maxHeartbeats 4000000 in
set_option maxRecDepth 100000 in
theorem w_M_sides_4 (C : Cx g p s m args meth c A 3 cX12_sides yX12_sides.cls) (hr : meth.sig.returnType = (some .int))  {res : Int32 × CS}    : ∀ (n : Nat) (x1 : Int32) (x2 : Int32) (σ : CS), L_M_sides_4 n x1 x2 σ = some res → NMI g p l e s m args below meth c A 1 21 3 am Rr res σ [(0, .ref (am 112)), (1, .int x1), (2, .int x2)] 4 [] := by
  intro n
  induction n with
  | zero =>
    intro x1 x2 σ h
    exact absurd (show (none : Option (Int32 × CS)) = some res from h) (by intro h9; cases h9)
  | succ n ih =>
    intro x1 x2 σ h
    rw [L_M_sides_4] at h
    refine nw_iload_n C dX12_sides_4 rfl 2 rfl ?_
    refine nw_aload_n C dX12_sides_5 rfl 0 rfl ?_
    refine nw_get (v := .int (σ.1 9)) C in_X12 0 ml_O rfl 9 (by decide) tw_1582 rfl mf_9 dX12_sides_6 ?_
    refine nw_icmp_ge (tgt := 54) C dX12_sides_9 (by decide) h (fun _ h => ?_) (fun _ h => ?_)
    · refine nw_iload_n C dX12_sides_54 rfl 1 rfl ?_
      exact nm_iret C hr dX12_sides_55 h
    · refine nw_iload_n C dX12_sides_12 rfl 1 rfl ?_
      refine nw_aload_n C dX12_sides_13 rfl 0 rfl ?_
      refine nw_iload_n C dX12_sides_14 rfl 2 rfl ?_
      refine nm_callVI (q0 := 0) (As := [.int x2]) (rest := [.int x1]) C h (fun _ _ e => c_M_x e) tw_1944 kv_X12_x ml_O rfl ⟨Nat.le_of_ble_eq_true rfl, Nat.le_of_ble_eq_true rfl⟩ rfl dX12_sides_15 rfl (Nat.le_of_ble_eq_true rfl) (fun r15 σ15 h => ?_)
      refine nw_aload_n C dX12_sides_18 rfl 0 rfl ?_
      refine nw_iload_n C dX12_sides_19 rfl 2 rfl ?_
      refine nw_iconst (v := 1) C dX12_sides_20 (by decide) ?_
      refine nw_iadd C dX12_sides_21 ?_
      refine nm_callVI (q0 := 0) (As := [.int (x2 + 1)]) (rest := [.int r15, .int x1]) C h (fun _ _ e => c_M_x e) tw_1944 kv_X12_x ml_O rfl ⟨Nat.le_of_ble_eq_true rfl, Nat.le_of_ble_eq_true rfl⟩ rfl dX12_sides_22 rfl (Nat.le_of_ble_eq_true rfl) (fun r22 σ22 h => ?_)
      refine nw_isub C dX12_sides_25 ?_
      refine nm_callSI  (As := [.int (r15 - r22)]) (rest := [.int x1]) C h (fun _ _ e => c_M_size e) tw_2006 ks_X12_size ⟨Nat.le_of_ble_eq_true rfl, Nat.le_of_ble_eq_true rfl⟩ rfl dX12_sides_26 rfl (Nat.le_of_ble_eq_true rfl) (fun r26 σ26 h => ?_)
      refine nw_aload_n C dX12_sides_29 rfl 0 rfl ?_
      refine nw_iload_n C dX12_sides_30 rfl 2 rfl ?_
      refine nm_callVI (q0 := 0) (As := [.int x2]) (rest := [.int r26, .int x1]) C h (fun _ _ e => c_M_y e) tw_1948 kv_X12_y ml_O rfl ⟨Nat.le_of_ble_eq_true rfl, Nat.le_of_ble_eq_true rfl⟩ rfl dX12_sides_31 rfl (Nat.le_of_ble_eq_true rfl) (fun r31 σ31 h => ?_)
      refine nw_aload_n C dX12_sides_34 rfl 0 rfl ?_
      refine nw_iload_n C dX12_sides_35 rfl 2 rfl ?_
      refine nw_iconst (v := 1) C dX12_sides_36 (by decide) ?_
      refine nw_iadd C dX12_sides_37 ?_
      refine nm_callVI (q0 := 0) (As := [.int (x2 + 1)]) (rest := [.int r31, .int r26, .int x1]) C h (fun _ _ e => c_M_y e) tw_1948 kv_X12_y ml_O rfl ⟨Nat.le_of_ble_eq_true rfl, Nat.le_of_ble_eq_true rfl⟩ rfl dX12_sides_38 rfl (Nat.le_of_ble_eq_true rfl) (fun r38 σ38 h => ?_)
      refine nw_isub C dX12_sides_41 ?_
      refine nm_callSI  (As := [.int (r31 - r38)]) (rest := [.int r26, .int x1]) C h (fun _ _ e => c_M_size e) tw_2006 ks_X12_size ⟨Nat.le_of_ble_eq_true rfl, Nat.le_of_ble_eq_true rfl⟩ rfl dX12_sides_42 rfl (Nat.le_of_ble_eq_true rfl) (fun r42 σ42 h => ?_)
      refine nw_iadd C dX12_sides_45 ?_
      refine nw_iadd C dX12_sides_46 ?_
      refine nw_istore_n (lv' := [(1, .int (x1 + (r26 + r42))), (0, .ref (am 112)), (2, .int x2)]) C dX12_sides_47 rfl (by decide) rfl ?_
      refine nw_iinc (lv' := [(2, .int (x2 + 1)), (1, .int (x1 + (r26 + r42))), (0, .ref (am 112))]) C (x2 + 1) dX12_sides_48 2 rfl rfl (by decide) rfl ?_
      refine nw_goto (tgt := 4) C dX12_sides_51 (by decide) ?_
      exact nw_lv (lv' := [(0, .ref (am 112)), (1, .int (x1 + (r26 + r42))), (2, .int (x2 + 1))]) [2, 1, 0] rfl (ih (x1 + (r26 + r42)) (x2 + 1) _ h)
def f_M_sides  (σ : CS) : Option (Int32 × CS) := L_M_sides_4 FU 0 0 σ
set_option maxHeartbeats 4000000 in
set_option maxRecDepth 100000 in
theorem c_M_sides {l : Launch} {g : EG} {am : Nat → Nat} {Rr : va_W} {σ σ' : CS} {r : Int32}   (h : f_M_sides σ = some (r, σ')) : CmI l g yX12_sides (.code yX12_sides cX12_sides 3 (some .int)) 1 21 am Rr σ [.ref (am 112)] r σ' := by
  refine Ct.of rfl (by decide) (Nat.le_of_ble_eq_true rfl) ?_
  intro p e s m args below meth c A C hr
  show NMI g p l e s m args below meth c A 1 21 3 am Rr (r, σ') σ [(0, .ref (am 112))] 0 []
  unfold f_M_sides at h
  refine nw_iconst (v := 0) C dX12_sides_0 (by decide) ?_
  refine nw_istore_n (lv' := [(1, .int 0), (0, .ref (am 112))]) C dX12_sides_1 rfl (by decide) rfl ?_
  refine nw_iconst (v := 0) C dX12_sides_2 (by decide) ?_
  refine nw_istore_n (lv' := [(2, .int 0), (1, .int 0), (0, .ref (am 112))]) C dX12_sides_3 rfl (by decide) rfl ?_
  exact nw_lv (lv' := [(0, .ref (am 112)), (1, .int 0), (2, .int 0)]) [2, 1, 0] rfl (w_M_sides_4 C hr FU 0 0 _ h)
theorem dX12_walks_0 : decode cX12_walks 0 = .ok (.iload_n 1, 1) := by decide +kernel
theorem dX12_walks_1 : decode cX12_walks 1 = .ok (.iload_n 2, 1) := by decide +kernel
theorem dX12_walks_2 : decode cX12_walks 2 = .ok (.if_icmp .ne 79, 3) := by decide +kernel
theorem dX12_walks_5 : decode cX12_walks 5 = .ok (.aload_n 0, 1) := by decide +kernel
theorem dX12_walks_6 : decode cX12_walks 6 = .ok (.iload_n 2, 1) := by decide +kernel
theorem dX12_walks_7 : decode cX12_walks 7 = .ok (.putfield 275, 3) := by decide +kernel
theorem dX12_walks_10 : decode cX12_walks 10 = .ok (.aload_n 0, 1) := by decide +kernel
theorem dX12_walks_11 : decode cX12_walks 11 = .ok (.invokevirtual 305, 3) := by decide +kernel
theorem dX12_walks_14 : decode cX12_walks 14 = .ok (.ifCond .ne 4, 3) := by decide +kernel
theorem dX12_walks_17 : decode cX12_walks 17 = .ok (.return_, 1) := by decide +kernel
theorem dX12_walks_18 : decode cX12_walks 18 = .ok (.aload_n 0, 1) := by decide +kernel
theorem dX12_walks_19 : decode cX12_walks 19 = .ok (.dup, 1) := by decide +kernel
theorem dX12_walks_20 : decode cX12_walks 20 = .ok (.getfield 325, 3) := by decide +kernel
theorem dX12_walks_23 : decode cX12_walks 23 = .ok (.iconst 1, 1) := by decide +kernel
theorem dX12_walks_24 : decode cX12_walks 24 = .ok (.iadd, 1) := by decide +kernel
theorem dX12_walks_25 : decode cX12_walks 25 = .ok (.putfield 325, 3) := by decide +kernel
theorem dX12_walks_28 : decode cX12_walks 28 = .ok (.aload_n 0, 1) := by decide +kernel
theorem dX12_walks_29 : decode cX12_walks 29 = .ok (.getfield 328, 3) := by decide +kernel
theorem dX12_walks_32 : decode cX12_walks 32 = .ok (.ifCond .lt 15, 3) := by decide +kernel
theorem dX12_walks_35 : decode cX12_walks 35 = .ok (.aload_n 0, 1) := by decide +kernel
theorem dX12_walks_36 : decode cX12_walks 36 = .ok (.invokevirtual 331, 3) := by decide +kernel
theorem dX12_walks_39 : decode cX12_walks 39 = .ok (.aload_n 0, 1) := by decide +kernel
theorem dX12_walks_40 : decode cX12_walks 40 = .ok (.getfield 328, 3) := by decide +kernel
theorem dX12_walks_43 : decode cX12_walks 43 = .ok (.if_icmp .lt 4, 3) := by decide +kernel
theorem dX12_walks_46 : decode cX12_walks 46 = .ok (.return_, 1) := by decide +kernel
theorem dX12_walks_47 : decode cX12_walks 47 = .ok (.aload_n 0, 1) := by decide +kernel
theorem dX12_walks_48 : decode cX12_walks 48 = .ok (.aload_n 0, 1) := by decide +kernel
theorem dX12_walks_49 : decode cX12_walks 49 = .ok (.invokevirtual 331, 3) := by decide +kernel
theorem dX12_walks_52 : decode cX12_walks 52 = .ok (.putfield 328, 3) := by decide +kernel
theorem dX12_walks_55 : decode cX12_walks 55 = .ok (.iconst 0, 1) := by decide +kernel
theorem dX12_walks_56 : decode cX12_walks 56 = .ok (.istore_n 3, 1) := by decide +kernel
theorem dX12_walks_57 : decode cX12_walks 57 = .ok (.iload_n 3, 1) := by decide +kernel
theorem dX12_walks_58 : decode cX12_walks 58 = .ok (.iload_n 2, 1) := by decide +kernel
theorem dX12_walks_59 : decode cX12_walks 59 = .ok (.if_icmp .ge 21, 3) := by decide +kernel
theorem dX12_walks_62 : decode cX12_walks 62 = .ok (.aload_n 0, 1) := by decide +kernel
theorem dX12_walks_63 : decode cX12_walks 63 = .ok (.getfield 41, 3) := by decide +kernel
theorem dX12_walks_66 : decode cX12_walks 66 = .ok (.iload_n 3, 1) := by decide +kernel
theorem dX12_walks_67 : decode cX12_walks 67 = .ok (.aload_n 0, 1) := by decide +kernel
theorem dX12_walks_68 : decode cX12_walks 68 = .ok (.getfield 23, 3) := by decide +kernel
theorem dX12_walks_71 : decode cX12_walks 71 = .ok (.iload_n 3, 1) := by decide +kernel
theorem dX12_walks_72 : decode cX12_walks 72 = .ok (.iaload, 1) := by decide +kernel
theorem dX12_walks_73 : decode cX12_walks 73 = .ok (.iastore, 1) := by decide +kernel
theorem dX12_walks_74 : decode cX12_walks 74 = .ok (.iinc 3 1, 3) := by decide +kernel
theorem dX12_walks_77 : decode cX12_walks 77 = .ok (.goto (-20), 3) := by decide +kernel
theorem dX12_walks_80 : decode cX12_walks 80 = .ok (.return_, 1) := by decide +kernel
theorem dX12_walks_81 : decode cX12_walks 81 = .ok (.iconst 0, 1) := by decide +kernel
theorem dX12_walks_82 : decode cX12_walks 82 = .ok (.istore_n 3, 1) := by decide +kernel
theorem dX12_walks_83 : decode cX12_walks 83 = .ok (.iload_n 3, 1) := by decide +kernel
theorem dX12_walks_84 : decode cX12_walks 84 = .ok (.aload_n 0, 1) := by decide +kernel
theorem dX12_walks_85 : decode cX12_walks 85 = .ok (.getfield 269, 3) := by decide +kernel
theorem dX12_walks_88 : decode cX12_walks 88 = .ok (.if_icmp .ge 42, 3) := by decide +kernel
theorem dX12_walks_91 : decode cX12_walks 91 = .ok (.aload_n 0, 1) := by decide +kernel
theorem dX12_walks_92 : decode cX12_walks 92 = .ok (.getfield 9, 3) := by decide +kernel
theorem dX12_walks_95 : decode cX12_walks 95 = .ok (.iload_n 3, 1) := by decide +kernel
theorem dX12_walks_96 : decode cX12_walks 96 = .ok (.iaload, 1) := by decide +kernel
theorem dX12_walks_97 : decode cX12_walks 97 = .ok (.aload_n 0, 1) := by decide +kernel
theorem dX12_walks_98 : decode cX12_walks 98 = .ok (.getfield 38, 3) := by decide +kernel
theorem dX12_walks_101 : decode cX12_walks 101 = .ok (.iload_n 1, 1) := by decide +kernel
theorem dX12_walks_102 : decode cX12_walks 102 = .ok (.iaload, 1) := by decide +kernel
theorem dX12_walks_103 : decode cX12_walks 103 = .ok (.if_icmp .eq 6, 3) := by decide +kernel
theorem dX12_walks_106 : decode cX12_walks 106 = .ok (.goto 18, 3) := by decide +kernel
theorem dX12_walks_109 : decode cX12_walks 109 = .ok (.aload_n 0, 1) := by decide +kernel
theorem dX12_walks_110 : decode cX12_walks 110 = .ok (.getfield 23, 3) := by decide +kernel
theorem dX12_walks_113 : decode cX12_walks 113 = .ok (.iload_n 1, 1) := by decide +kernel
theorem dX12_walks_114 : decode cX12_walks 114 = .ok (.iload_n 3, 1) := by decide +kernel
theorem dX12_walks_115 : decode cX12_walks 115 = .ok (.iastore, 1) := by decide +kernel
theorem dX12_walks_116 : decode cX12_walks 116 = .ok (.aload_n 0, 1) := by decide +kernel
theorem dX12_walks_117 : decode cX12_walks 117 = .ok (.iload_n 1, 1) := by decide +kernel
theorem dX12_walks_118 : decode cX12_walks 118 = .ok (.iconst 1, 1) := by decide +kernel
theorem dX12_walks_119 : decode cX12_walks 119 = .ok (.iadd, 1) := by decide +kernel
theorem dX12_walks_120 : decode cX12_walks 120 = .ok (.iload_n 2, 1) := by decide +kernel
theorem dX12_walks_121 : decode cX12_walks 121 = .ok (.invokevirtual 335, 3) := by decide +kernel
theorem dX12_walks_124 : decode cX12_walks 124 = .ok (.iinc 3 1, 3) := by decide +kernel
theorem dX12_walks_127 : decode cX12_walks 127 = .ok (.goto (-44), 3) := by decide +kernel
theorem dX12_walks_130 : decode cX12_walks 130 = .ok (.return_, 1) := by decide +kernel
def L_M_walks_57 (rc : Nat → Int32 → Int32 → CS → Option (Int32 × CS))  (x2 : Int32) : Nat → Int32 → CS → Option (Int32 × CS)
  | 0, _, _ => none
  | n + 1, x3, σ => if x2 ≤ x3 then some (0, σ) else gix x3 10 (gix x3 6 ((L_M_walks_57 rc x2 n) (x3 + 1) (wr σ 17 x3 (rd σ 8 x3))))
set_option maxHeartbeats 4000000 in
set_option maxRecDepth 100000 in
theorem w_M_walks_57 (C : Cx g p s m args meth c A 4 cX12_walks yX12_walks.cls) (hr : meth.sig.returnType = none) {d : Nat} {rc : Nat → Int32 → Int32 → CS → Option (Int32 × CS)} (hrc0 : ∀ {l : Launch} {g : EG} {am : Nat → Nat} {Rr : va_W} {σ σ' : CS} {r : Int32} {a0 a1 : Int32}, rc 0 a0 a1 σ = some (r, σ') → CmV l g yX12_walks (.code yX12_walks cX12_walks 4 none) (10 * d) (400 * d) am Rr σ [.ref (am 112), .int a0, .int a1] r σ')  {res : Int32 × CS}  (x2 : Int32)  : ∀ (n : Nat) (x3 : Int32) (σ : CS), L_M_walks_57 rc x2 n x3 σ = some res → NMV g p l e s m args below meth c A (10 * d + 10) (400 * d + 400) 4 am Rr res σ [(0, .ref (am 112)), (2, .int x2), (3, .int x3)] 57 [] := by
  intro n
  induction n with
  | zero =>
    intro x3 σ h
    exact absurd (show (none : Option (Int32 × CS)) = some res from h) (by intro h9; cases h9)
  | succ n ih =>
    intro x3 σ h
    rw [L_M_walks_57] at h
    refine nw_iload_n C dX12_walks_57 rfl 2 rfl ?_
    refine nw_iload_n C dX12_walks_58 rfl 1 rfl ?_
    refine nw_icmp_ge (tgt := 80) C dX12_walks_59 (by decide) h (fun _ h => ?_) (fun _ h => ?_)
    · exact nm_vret C hr dX12_walks_80 h
    · refine nw_aload_n C dX12_walks_62 rfl 0 rfl ?_
      refine nw_get (v := .ref (am 17)) C in_X12 0 ml_O rfl 17 (by decide) tw_1590 rfl mf_17 dX12_walks_63 ?_
      refine nw_iload_n C dX12_walks_66 rfl 2 rfl ?_
      refine nw_aload_n C dX12_walks_67 rfl 0 rfl ?_
      refine nw_get (v := .ref (am 8)) C in_X12 0 ml_O rfl 8 (by decide) tw_1581 rfl mf_8 dX12_walks_68 ?_
      refine nw_iload_n C dX12_walks_71 rfl 2 rfl ?_
      refine nw_iald C 5 ml_8 dX12_walks_72 h (fun h => ?_)
      refine nw_iast C 11 ml_17 dX12_walks_73 h ms_17 (fun h => ?_)
      refine nw_iinc (lv' := [(3, .int (x3 + 1)), (0, .ref (am 112)), (2, .int x2)]) C (x3 + 1) dX12_walks_74 2 rfl rfl (by decide) rfl ?_
      refine nw_goto (tgt := 57) C dX12_walks_77 (by decide) ?_
      exact nw_lv (lv' := [(0, .ref (am 112)), (2, .int x2), (3, .int (x3 + 1))]) [1, 2, 0] rfl (ih (x3 + 1) _ h)
def B_M_walks_47 (rc : Nat → Int32 → Int32 → CS → Option (Int32 × CS))   (x2 : Int32) (σ : CS) : Option (Int32 × CS) := bnd (f_M_sides σ) (fun r49 σ49 => L_M_walks_57 rc x2 FU 0 (sF σ49 20 r49))
set_option maxHeartbeats 4000000 in
set_option maxRecDepth 100000 in
theorem w_M_walks_47 (C : Cx g p s m args meth c A 4 cX12_walks yX12_walks.cls) (hr : meth.sig.returnType = none) {d : Nat} {rc : Nat → Int32 → Int32 → CS → Option (Int32 × CS)} (hrc0 : ∀ {l : Launch} {g : EG} {am : Nat → Nat} {Rr : va_W} {σ σ' : CS} {r : Int32} {a0 a1 : Int32}, rc 0 a0 a1 σ = some (r, σ') → CmV l g yX12_walks (.code yX12_walks cX12_walks 4 none) (10 * d) (400 * d) am Rr σ [.ref (am 112), .int a0, .int a1] r σ')  {res : Int32 × CS}   (x2 : Int32)  (σ : CS) (h : B_M_walks_47 rc x2 σ = some res) : NMV g p l e s m args below meth c A (10 * d + 10) (400 * d + 400) 4 am Rr res σ [(0, .ref (am 112)), (2, .int x2)] 47 [] := by
  unfold B_M_walks_47 at h
  refine nw_aload_n C dX12_walks_47 rfl 0 rfl ?_
  refine nw_aload_n C dX12_walks_48 rfl 0 rfl ?_
  refine nm_callVI (q0 := 0) (As := []) (rest := [.ref (am 112)]) C h (fun _ _ e => c_M_sides e) tw_2002 kv_X12_sides ml_O rfl ⟨by omega, by omega⟩ rfl dX12_walks_49 rfl (Nat.le_of_ble_eq_true rfl) (fun r49 σ49 h => ?_)
  refine nw_put (ty := .int) C in_X12 0 ml_O rfl 20 (by decide) tyX12 tyX12_ok nmX12 tw_1593 rfl rfl (by decide +kernel) rfl rfl (Nat.le_of_ble_eq_true rfl) dX12_walks_52 ms_20 ?_
  refine nw_iconst (v := 0) C dX12_walks_55 (by decide) ?_
  refine nw_istore_n (lv' := [(3, .int 0), (0, .ref (am 112)), (2, .int x2)]) C dX12_walks_56 rfl (by decide) rfl ?_
  exact nw_lv (lv' := [(0, .ref (am 112)), (2, .int x2), (3, .int 0)]) [1, 2, 0] rfl (w_M_walks_57 C hr hrc0 x2 FU 0 _ h)
def L_M_walks_83 (rc : Nat → Int32 → Int32 → CS → Option (Int32 × CS))  (x1 : Int32) (x2 : Int32) : Nat → Int32 → CS → Option (Int32 × CS)
  | 0, _, _ => none
  | n + 1, x3, σ => if (σ.1 2) ≤ x3 then some (0, σ) else gix x3 40 (gix x1 6 (if (rd σ 3 x3) = (rd σ 16 x1) then gix x1 10 (bnd (rc 0 (x1 + 1) x2 (wr σ 8 x1 x3)) (fun _ σ121 => (L_M_walks_83 rc x1 x2 n) (x3 + 1) σ121)) else (L_M_walks_83 rc x1 x2 n) (x3 + 1) σ))
set_option maxHeartbeats 4000000 in
set_option maxRecDepth 100000 in
theorem w_M_walks_83 (C : Cx g p s m args meth c A 4 cX12_walks yX12_walks.cls) (hr : meth.sig.returnType = none) {d : Nat} {rc : Nat → Int32 → Int32 → CS → Option (Int32 × CS)} (hrc0 : ∀ {l : Launch} {g : EG} {am : Nat → Nat} {Rr : va_W} {σ σ' : CS} {r : Int32} {a0 a1 : Int32}, rc 0 a0 a1 σ = some (r, σ') → CmV l g yX12_walks (.code yX12_walks cX12_walks 4 none) (10 * d) (400 * d) am Rr σ [.ref (am 112), .int a0, .int a1] r σ')  {res : Int32 × CS}  (x1 : Int32) (x2 : Int32)  : ∀ (n : Nat) (x3 : Int32) (σ : CS), L_M_walks_83 rc x1 x2 n x3 σ = some res → NMV g p l e s m args below meth c A (10 * d + 10) (400 * d + 400) 4 am Rr res σ [(0, .ref (am 112)), (1, .int x1), (2, .int x2), (3, .int x3)] 83 [] := by
  intro n
  induction n with
  | zero =>
    intro x3 σ h
    exact absurd (show (none : Option (Int32 × CS)) = some res from h) (by intro h9; cases h9)
  | succ n ih =>
    intro x3 σ h
    rw [L_M_walks_83] at h
    refine nw_iload_n C dX12_walks_83 rfl 3 rfl ?_
    refine nw_aload_n C dX12_walks_84 rfl 0 rfl ?_
    refine nw_get (v := .int (σ.1 2)) C in_X12 0 ml_O rfl 2 (by decide) tw_1575 rfl mf_2 dX12_walks_85 ?_
    refine nw_icmp_ge (tgt := 130) C dX12_walks_88 (by decide) h (fun _ h => ?_) (fun _ h => ?_)
    · exact nm_vret C hr dX12_walks_130 h
    · refine nw_aload_n C dX12_walks_91 rfl 0 rfl ?_
      refine nw_get (v := .ref (am 3)) C in_X12 0 ml_O rfl 3 (by decide) tw_1576 rfl mf_3 dX12_walks_92 ?_
      refine nw_iload_n C dX12_walks_95 rfl 3 rfl ?_
      refine nw_iald C 1 ml_3 dX12_walks_96 h (fun h => ?_)
      refine nw_aload_n C dX12_walks_97 rfl 0 rfl ?_
      refine nw_get (v := .ref (am 16)) C in_X12 0 ml_O rfl 16 (by decide) tw_1589 rfl mf_16 dX12_walks_98 ?_
      refine nw_iload_n C dX12_walks_101 rfl 1 rfl ?_
      refine nw_iald C 10 ml_16 dX12_walks_102 h (fun h => ?_)
      refine nw_icmp_eq (tgt := 109) C dX12_walks_103 (by decide) h (fun _ h => ?_) (fun _ h => ?_)
      · refine nw_aload_n C dX12_walks_109 rfl 0 rfl ?_
        refine nw_get (v := .ref (am 8)) C in_X12 0 ml_O rfl 8 (by decide) tw_1581 rfl mf_8 dX12_walks_110 ?_
        refine nw_iload_n C dX12_walks_113 rfl 1 rfl ?_
        refine nw_iload_n C dX12_walks_114 rfl 3 rfl ?_
        refine nw_iast C 5 ml_8 dX12_walks_115 h ms_8 (fun h => ?_)
        refine nw_aload_n C dX12_walks_116 rfl 0 rfl ?_
        refine nw_iload_n C dX12_walks_117 rfl 1 rfl ?_
        refine nw_iconst (v := 1) C dX12_walks_118 (by decide) ?_
        refine nw_iadd C dX12_walks_119 ?_
        refine nw_iload_n C dX12_walks_120 rfl 2 rfl ?_
        refine nm_callVV (q0 := 0) (As := [.int (x1 + 1), .int x2]) (rest := []) C h (fun _ _ e => hrc0 e) tw_1998 kv_X12_walks ml_O rfl ⟨by omega, by omega⟩ rfl dX12_walks_121 rfl (Nat.le_of_ble_eq_true rfl) (fun r121 σ121 h => ?_)
        refine nw_iinc (lv' := [(3, .int (x3 + 1)), (0, .ref (am 112)), (1, .int x1), (2, .int x2)]) C (x3 + 1) dX12_walks_124 3 rfl rfl (by decide) rfl ?_
        refine nw_goto (tgt := 83) C dX12_walks_127 (by decide) ?_
        exact nw_lv (lv' := [(0, .ref (am 112)), (1, .int x1), (2, .int x2), (3, .int (x3 + 1))]) [1, 2, 3, 0] rfl (ih (x3 + 1) _ h)
      · refine nw_goto (tgt := 124) C dX12_walks_106 (by decide) ?_
        refine nw_iinc (lv' := [(3, .int (x3 + 1)), (0, .ref (am 112)), (1, .int x1), (2, .int x2)]) C (x3 + 1) dX12_walks_124 3 rfl rfl (by decide) rfl ?_
        refine nw_goto (tgt := 83) C dX12_walks_127 (by decide) ?_
        exact nw_lv (lv' := [(0, .ref (am 112)), (1, .int x1), (2, .int x2), (3, .int (x3 + 1))]) [1, 2, 3, 0] rfl (ih (x3 + 1) _ h)
def f_M_walks (rc : Nat → Int32 → Int32 → CS → Option (Int32 × CS)) (p0 : Int32) (p1 : Int32) (σ : CS) : Option (Int32 × CS) := if p0 = p1 then bnd (f_M_isSimple (sF σ 9 p1)) (fun r11 σ11 => if r11 = 0 then some (0, σ11) else if (σ11.1 20) < 0 then B_M_walks_47 rc p1 (sF σ11 19 ((σ11.1 19) + 1)) else bnd (f_M_sides (sF σ11 19 ((σ11.1 19) + 1))) (fun r36 σ36 => if r36 < (σ36.1 20) then B_M_walks_47 rc p1 σ36 else some (0, σ36))) else L_M_walks_83 rc p0 p1 FU 0 σ
set_option maxHeartbeats 4000000 in
set_option maxRecDepth 100000 in
theorem c_M_walks {l : Launch} {g : EG} {am : Nat → Nat} {Rr : va_W} {σ σ' : CS} {r : Int32} {p0 : Int32} {p1 : Int32} {d : Nat} {rc : Nat → Int32 → Int32 → CS → Option (Int32 × CS)} (hrc0 : ∀ {l : Launch} {g : EG} {am : Nat → Nat} {Rr : va_W} {σ σ' : CS} {r : Int32} {a0 a1 : Int32}, rc 0 a0 a1 σ = some (r, σ') → CmV l g yX12_walks (.code yX12_walks cX12_walks 4 none) (10 * d) (400 * d) am Rr σ [.ref (am 112), .int a0, .int a1] r σ')  (h : f_M_walks rc p0 p1 σ = some (r, σ')) : CmV l g yX12_walks (.code yX12_walks cX12_walks 4 none) (10 * d + 10) (400 * d + 400) am Rr σ [.ref (am 112), .int p0, .int p1] r σ' := by
  refine Ct.of rfl (by decide) (Nat.le_of_ble_eq_true rfl) ?_
  intro p e s m args below meth c A C hr
  show NMV g p l e s m args below meth c A (10 * d + 10) (400 * d + 400) 4 am Rr (r, σ') σ [(0, .ref (am 112)), (1, .int p0), (2, .int p1)] 0 []
  unfold f_M_walks at h
  refine nw_iload_n C dX12_walks_0 rfl 1 rfl ?_
  refine nw_iload_n C dX12_walks_1 rfl 2 rfl ?_
  refine nw_icmp_ne (tgt := 81) C dX12_walks_2 (by decide) h (fun _ h => ?_) (fun _ h => ?_)
  · refine nw_aload_n C dX12_walks_5 rfl 0 rfl ?_
    refine nw_iload_n C dX12_walks_6 rfl 2 rfl ?_
    refine nw_put (ty := .int) C in_X12 0 ml_O rfl 9 (by decide) tyX12 tyX12_ok nmX12 tw_1582 rfl rfl (by decide +kernel) rfl rfl (Nat.le_of_ble_eq_true rfl) dX12_walks_7 ms_9 ?_
    refine nw_aload_n C dX12_walks_10 rfl 0 rfl ?_
    refine nm_callVI (q0 := 0) (As := []) (rest := []) C h (fun _ _ e => c_M_isSimple e) tw_1940 kv_X12_isSimple ml_O rfl ⟨by omega, by omega⟩ rfl dX12_walks_11 rfl (Nat.le_of_ble_eq_true rfl) (fun r11 σ11 h => ?_)
    refine nw_if_ne (tgt := 18) C dX12_walks_14 (by decide) h (fun _ h => ?_) (fun _ h => ?_)
    · exact nm_vret C hr dX12_walks_17 h
    · refine nw_aload_n C dX12_walks_18 rfl 0 rfl ?_
      refine nw_dup C dX12_walks_19 rfl ?_
      refine nw_get (v := .int (σ11.1 19)) C in_X12 0 ml_O rfl 19 (by decide) tw_1592 rfl mf_19 dX12_walks_20 ?_
      refine nw_iconst (v := 1) C dX12_walks_23 (by decide) ?_
      refine nw_iadd C dX12_walks_24 ?_
      refine nw_put (ty := .int) C in_X12 0 ml_O rfl 19 (by decide) tyX12 tyX12_ok nmX12 tw_1592 rfl rfl (by decide +kernel) rfl rfl (Nat.le_of_ble_eq_true rfl) dX12_walks_25 ms_19 ?_
      refine nw_aload_n C dX12_walks_28 rfl 0 rfl ?_
      refine nw_get (v := .int (σ11.1 20)) C in_X12 0 ml_O rfl 20 (by decide) tw_1593 rfl rfl dX12_walks_29 ?_
      refine nw_if_lt (tgt := 47) C dX12_walks_32 (by decide) h (fun _ h => ?_) (fun _ h => ?_)
      · exact nw_lv (lv' := [(0, .ref (am 112)), (2, .int p1)]) [0, 2] rfl (w_M_walks_47 C hr hrc0 p1 _ h)
      · refine nw_aload_n C dX12_walks_35 rfl 0 rfl ?_
        refine nm_callVI (q0 := 0) (As := []) (rest := []) C h (fun _ _ e => c_M_sides e) tw_2002 kv_X12_sides ml_O rfl ⟨by omega, by omega⟩ rfl dX12_walks_36 rfl (Nat.le_of_ble_eq_true rfl) (fun r36 σ36 h => ?_)
        refine nw_aload_n C dX12_walks_39 rfl 0 rfl ?_
        refine nw_get (v := .int (σ36.1 20)) C in_X12 0 ml_O rfl 20 (by decide) tw_1593 rfl mf_20 dX12_walks_40 ?_
        refine nw_icmp_lt (tgt := 47) C dX12_walks_43 (by decide) h (fun _ h => ?_) (fun _ h => ?_)
        · exact nw_lv (lv' := [(0, .ref (am 112)), (2, .int p1)]) [0, 2] rfl (w_M_walks_47 C hr hrc0 p1 _ h)
        · exact nm_vret C hr dX12_walks_46 h
  · refine nw_iconst (v := 0) C dX12_walks_81 (by decide) ?_
    refine nw_istore_n (lv' := [(3, .int 0), (0, .ref (am 112)), (1, .int p0), (2, .int p1)]) C dX12_walks_82 rfl (by decide) rfl ?_
    exact nw_lv (lv' := [(0, .ref (am 112)), (1, .int p0), (2, .int p1), (3, .int 0)]) [1, 2, 3, 0] rfl (w_M_walks_83 C hr hrc0 p0 p1 FU 0 _ h)
def g_MW : Nat → Nat → Int32 → Int32 → CS → Option (Int32 × CS)
  | 0, _, _, _, _ => none
  | d + 1, tag, a0, a1, σ => if tag = 0 then f_M_walks (g_MW d) a0 a1 σ else none
set_option maxHeartbeats 4000000 in
theorem cg_MW (d : Nat) : (∀ {l : Launch} {g : EG} {am : Nat → Nat} {Rr : va_W} {σ σ' : CS} {r : Int32} {a0 a1 : Int32}, g_MW d 0 a0 a1 σ = some (r, σ') → CmV l g yX12_walks (.code yX12_walks cX12_walks 4 none) (10 * d) (400 * d) am Rr σ [.ref (am 112), .int a0, .int a1] r σ') := by
  induction d with
  | zero => exact fun h => absurd (show (none : Option (Int32 × CS)) = some _ from h) (by intro h9; cases h9)
  | succ d ih =>
    have i0 := @ih
    exact (by intro l g am Rr σ σ' r a0 a1 h; exact c_M_walks @i0 h)
theorem cg_M_walks (d : Nat) : ∀ {l : Launch} {g : EG} {am : Nat → Nat} {Rr : va_W} {σ σ' : CS} {r : Int32} {a0 a1 : Int32}, g_MW d 0 a0 a1 σ = some (r, σ') → CmV l g yX12_walks (.code yX12_walks cX12_walks 4 none) (10 * d) (400 * d) am Rr σ [.ref (am 112), .int a0, .int a1] r σ' := fun h => (cg_MW d) h
theorem dX12_walk_0 : decode cX12_walk 0 = .ok (.aload_n 0, 1) := by decide +kernel
theorem dX12_walk_1 : decode cX12_walk 1 = .ok (.iconst 0, 1) := by decide +kernel
theorem dX12_walk_2 : decode cX12_walk 2 = .ok (.putfield 253, 3) := by decide +kernel
theorem dX12_walk_5 : decode cX12_walk 5 = .ok (.aload_n 0, 1) := by decide +kernel
theorem dX12_walk_6 : decode cX12_walk 6 = .ok (.iload_n 1, 1) := by decide +kernel
theorem dX12_walk_7 : decode cX12_walk 7 = .ok (.ifCond .lt 11, 3) := by decide +kernel
theorem dX12_walk_10 : decode cX12_walk 10 = .ok (.iload_n 1, 1) := by decide +kernel
theorem dX12_walk_11 : decode cX12_walk 11 = .ok (.aload_n 0, 1) := by decide +kernel
theorem dX12_walk_12 : decode cX12_walk 12 = .ok (.getfield 272, 3) := by decide +kernel
theorem dX12_walk_15 : decode cX12_walk 15 = .ok (.if_icmp .le 7, 3) := by decide +kernel
theorem dX12_walk_18 : decode cX12_walk 18 = .ok (.iconst 1, 1) := by decide +kernel
theorem dX12_walk_19 : decode cX12_walk 19 = .ok (.goto 4, 3) := by decide +kernel
theorem dX12_walk_22 : decode cX12_walk 22 = .ok (.iconst 0, 1) := by decide +kernel
theorem dX12_walk_23 : decode cX12_walk 23 = .ok (.iconst 1, 1) := by decide +kernel
theorem dX12_walk_24 : decode cX12_walk 24 = .ok (.invokevirtual 265, 3) := by decide +kernel
theorem dX12_walk_27 : decode cX12_walk 27 = .ok (.ifCond .eq 5, 3) := by decide +kernel
theorem dX12_walk_30 : decode cX12_walk 30 = .ok (.iconst 0, 1) := by decide +kernel
theorem dX12_walk_31 : decode cX12_walk 31 = .ok (.ireturn, 1) := by decide +kernel
theorem dX12_walk_32 : decode cX12_walk 32 = .ok (.aload_n 0, 1) := by decide +kernel
theorem dX12_walk_33 : decode cX12_walk 33 = .ok (.iconst 0, 1) := by decide +kernel
theorem dX12_walk_34 : decode cX12_walk 34 = .ok (.putfield 272, 3) := by decide +kernel
theorem dX12_walk_37 : decode cX12_walk 37 = .ok (.aload_n 0, 1) := by decide +kernel
theorem dX12_walk_38 : decode cX12_walk 38 = .ok (.iconst 0, 1) := by decide +kernel
theorem dX12_walk_39 : decode cX12_walk 39 = .ok (.putfield 338, 3) := by decide +kernel
theorem dX12_walk_42 : decode cX12_walk 42 = .ok (.aload_n 0, 1) := by decide +kernel
theorem dX12_walk_43 : decode cX12_walk 43 = .ok (.iconst 0, 1) := by decide +kernel
theorem dX12_walk_44 : decode cX12_walk 44 = .ok (.putfield 325, 3) := by decide +kernel
theorem dX12_walk_47 : decode cX12_walk 47 = .ok (.aload_n 0, 1) := by decide +kernel
theorem dX12_walk_48 : decode cX12_walk 48 = .ok (.iconst (-1), 1) := by decide +kernel
theorem dX12_walk_49 : decode cX12_walk 49 = .ok (.putfield 328, 3) := by decide +kernel
theorem dX12_walk_52 : decode cX12_walk 52 = .ok (.iload_n 1, 1) := by decide +kernel
theorem dX12_walk_53 : decode cX12_walk 53 = .ok (.iconst 3, 1) := by decide +kernel
theorem dX12_walk_54 : decode cX12_walk 54 = .ok (.bipush 6, 2) := by decide +kernel
theorem dX12_walk_56 : decode cX12_walk 56 = .ok (.invokestatic 257, 3) := by decide +kernel
theorem dX12_walk_59 : decode cX12_walk 59 = .ok (.ifCond .ne 6, 3) := by decide +kernel
theorem dX12_walk_62 : decode cX12_walk 62 = .ok (.bipush (-2), 2) := by decide +kernel
theorem dX12_walk_64 : decode cX12_walk 64 = .ok (.ireturn, 1) := by decide +kernel
theorem dX12_walk_65 : decode cX12_walk 65 = .ok (.iconst 0, 1) := by decide +kernel
theorem dX12_walk_66 : decode cX12_walk 66 = .ok (.istore_n 2, 1) := by decide +kernel
theorem dX12_walk_67 : decode cX12_walk 67 = .ok (.iload_n 2, 1) := by decide +kernel
theorem dX12_walk_68 : decode cX12_walk 68 = .ok (.iload_n 1, 1) := by decide +kernel
theorem dX12_walk_69 : decode cX12_walk 69 = .ok (.if_icmp .ge 25, 3) := by decide +kernel
theorem dX12_walk_72 : decode cX12_walk 72 = .ok (.aload_n 0, 1) := by decide +kernel
theorem dX12_walk_73 : decode cX12_walk 73 = .ok (.getfield 38, 3) := by decide +kernel
theorem dX12_walk_76 : decode cX12_walk 76 = .ok (.iload_n 2, 1) := by decide +kernel
theorem dX12_walk_77 : decode cX12_walk 77 = .ok (.aload_n 0, 1) := by decide +kernel
theorem dX12_walk_78 : decode cX12_walk 78 = .ok (.getfield 19, 3) := by decide +kernel
theorem dX12_walk_81 : decode cX12_walk 81 = .ok (.iload_n 2, 1) := by decide +kernel
theorem dX12_walk_82 : decode cX12_walk 82 = .ok (.baload, 1) := by decide +kernel
theorem dX12_walk_83 : decode cX12_walk 83 = .ok (.sipush 255, 3) := by decide +kernel
theorem dX12_walk_86 : decode cX12_walk 86 = .ok (.iand, 1) := by decide +kernel
theorem dX12_walk_87 : decode cX12_walk 87 = .ok (.iastore, 1) := by decide +kernel
theorem dX12_walk_88 : decode cX12_walk 88 = .ok (.iinc 2 1, 3) := by decide +kernel
theorem dX12_walk_91 : decode cX12_walk 91 = .ok (.goto (-24), 3) := by decide +kernel
theorem dX12_walk_94 : decode cX12_walk 94 = .ok (.aload_n 0, 1) := by decide +kernel
theorem dX12_walk_95 : decode cX12_walk 95 = .ok (.iconst 0, 1) := by decide +kernel
theorem dX12_walk_96 : decode cX12_walk 96 = .ok (.iload_n 1, 1) := by decide +kernel
theorem dX12_walk_97 : decode cX12_walk 97 = .ok (.invokevirtual 335, 3) := by decide +kernel
theorem dX12_walk_100 : decode cX12_walk 100 = .ok (.aload_n 0, 1) := by decide +kernel
theorem dX12_walk_101 : decode cX12_walk 101 = .ok (.getfield 325, 3) := by decide +kernel
theorem dX12_walk_104 : decode cX12_walk 104 = .ok (.ifCond .ne 5, 3) := by decide +kernel
theorem dX12_walk_107 : decode cX12_walk 107 = .ok (.iconst (-1), 1) := by decide +kernel
theorem dX12_walk_108 : decode cX12_walk 108 = .ok (.ireturn, 1) := by decide +kernel
theorem dX12_walk_109 : decode cX12_walk 109 = .ok (.aload_n 0, 1) := by decide +kernel
theorem dX12_walk_110 : decode cX12_walk 110 = .ok (.iload_n 1, 1) := by decide +kernel
theorem dX12_walk_111 : decode cX12_walk 111 = .ok (.putfield 338, 3) := by decide +kernel
theorem dX12_walk_114 : decode cX12_walk 114 = .ok (.aload_n 0, 1) := by decide +kernel
theorem dX12_walk_115 : decode cX12_walk 115 = .ok (.getfield 328, 3) := by decide +kernel
theorem dX12_walk_118 : decode cX12_walk 118 = .ok (.ireturn, 1) := by decide +kernel
def L_M_walk_67 (k94 : Int32 → CS → Option (Int32 × CS)) (x1 : Int32) : Nat → Int32 → CS → Option (Int32 × CS)
  | 0, _, _ => none
  | n + 1, x2, σ => if x1 ≤ x2 then k94 x1 σ else gix x2 400 (gix x2 6 ((L_M_walk_67 k94 x1 n) (x2 + 1) (wr σ 16 x2 ((rd σ 6 x2) &&& 255))))
set_option maxHeartbeats 4000000 in
set_option maxRecDepth 100000 in
theorem w_M_walk_67 (C : Cx g p s m args meth c A 3 cX12_walk yX12_walk.cls) (hr : meth.sig.returnType = (some .int))  {res : Int32 × CS}  (x1 : Int32) {k94 : Int32 → CS → Option (Int32 × CS)} (hk94 : ∀ (x1 : Int32) (σ : CS), k94 x1 σ = some res → NMI g p l e s m args below meth c A 161 6423 3 am Rr res σ [(0, .ref (am 112)), (1, .int x1)] 94 []) : ∀ (n : Nat) (x2 : Int32) (σ : CS), L_M_walk_67 k94 x1 n x2 σ = some res → NMI g p l e s m args below meth c A 161 6423 3 am Rr res σ [(0, .ref (am 112)), (1, .int x1), (2, .int x2)] 67 [] := by
  intro n
  induction n with
  | zero =>
    intro x2 σ h
    exact absurd (show (none : Option (Int32 × CS)) = some res from h) (by intro h9; cases h9)
  | succ n ih =>
    intro x2 σ h
    rw [L_M_walk_67] at h
    refine nw_iload_n C dX12_walk_67 rfl 2 rfl ?_
    refine nw_iload_n C dX12_walk_68 rfl 1 rfl ?_
    refine nw_icmp_ge (tgt := 94) C dX12_walk_69 (by decide) h (fun _ h => ?_) (fun _ h => ?_)
    · exact nw_lv (lv' := [(0, .ref (am 112)), (1, .int x1)]) [0, 1] rfl (hk94 x1 _ h)
    · refine nw_aload_n C dX12_walk_72 rfl 0 rfl ?_
      refine nw_get (v := .ref (am 16)) C in_X12 0 ml_O rfl 16 (by decide) tw_1589 rfl mf_16 dX12_walk_73 ?_
      refine nw_iload_n C dX12_walk_76 rfl 2 rfl ?_
      refine nw_aload_n C dX12_walk_77 rfl 0 rfl ?_
      refine nw_get (v := .ref (am 6)) C in_X12 0 ml_O rfl 6 (by decide) tw_1579 rfl mf_6 dX12_walk_78 ?_
      refine nw_iload_n C dX12_walk_81 rfl 2 rfl ?_
      refine nw_bald C 4 ml_6 dX12_walk_82 h (fun h => ?_)
      refine nw_sipush (v := 255) C dX12_walk_83 (by decide) ?_
      refine nw_iand C dX12_walk_86 ?_
      refine nw_iast C 10 ml_16 dX12_walk_87 h ms_16 (fun h => ?_)
      refine nw_iinc (lv' := [(2, .int (x2 + 1)), (0, .ref (am 112)), (1, .int x1)]) C (x2 + 1) dX12_walk_88 2 rfl rfl (by decide) rfl ?_
      refine nw_goto (tgt := 67) C dX12_walk_91 (by decide) ?_
      exact nw_lv (lv' := [(0, .ref (am 112)), (1, .int x1), (2, .int (x2 + 1))]) [1, 2, 0] rfl (ih (x2 + 1) _ h)
def B_M_walk_94   (x1 : Int32) (σ : CS) : Option (Int32 × CS) := bnd (g_MW 16 0 0 x1 σ) (fun _ σ97 => if (σ97.1 19) = 0 then some ((-1), σ97) else some ((σ97.1 20), (sF σ97 18 x1)))
set_option maxHeartbeats 4000000 in
set_option maxRecDepth 100000 in
theorem w_M_walk_94 (C : Cx g p s m args meth c A 3 cX12_walk yX12_walk.cls) (hr : meth.sig.returnType = (some .int))  {res : Int32 × CS}   (x1 : Int32)  (σ : CS) (h : B_M_walk_94 x1 σ = some res) : NMI g p l e s m args below meth c A 161 6423 3 am Rr res σ [(0, .ref (am 112)), (1, .int x1)] 94 [] := by
  unfold B_M_walk_94 at h
  refine nw_aload_n C dX12_walk_94 rfl 0 rfl ?_
  refine nw_iconst (v := 0) C dX12_walk_95 (by decide) ?_
  refine nw_iload_n C dX12_walk_96 rfl 1 rfl ?_
  refine nm_callVV (q0 := 0) (As := [.int 0, .int x1]) (rest := []) C h (fun _ _ e => cg_M_walks 16 e) tw_1998 kv_X12_walks ml_O rfl ⟨Nat.le_of_ble_eq_true rfl, Nat.le_of_ble_eq_true rfl⟩ rfl dX12_walk_97 rfl (Nat.le_of_ble_eq_true rfl) (fun r97 σ97 h => ?_)
  refine nw_aload_n C dX12_walk_100 rfl 0 rfl ?_
  refine nw_get (v := .int (σ97.1 19)) C in_X12 0 ml_O rfl 19 (by decide) tw_1592 rfl mf_19 dX12_walk_101 ?_
  refine nw_if_ne (tgt := 109) C dX12_walk_104 (by decide) h (fun _ h => ?_) (fun _ h => ?_)
  · refine nw_iconst (v := (-1)) C dX12_walk_107 (by decide) ?_
    exact nm_iret C hr dX12_walk_108 h
  · refine nw_aload_n C dX12_walk_109 rfl 0 rfl ?_
    refine nw_iload_n C dX12_walk_110 rfl 1 rfl ?_
    refine nw_put (ty := .int) C in_X12 0 ml_O rfl 18 (by decide) tyX12 tyX12_ok nmX12 tw_1591 rfl rfl (by decide +kernel) rfl rfl (Nat.le_of_ble_eq_true rfl) dX12_walk_111 ms_18 ?_
    refine nw_aload_n C dX12_walk_114 rfl 0 rfl ?_
    refine nw_get (v := .int (σ97.1 20)) C in_X12 0 ml_O rfl 20 (by decide) tw_1593 rfl rfl dX12_walk_115 ?_
    exact nm_iret C hr dX12_walk_118 h
def B_M_walk_23   (x1 : Int32) (z1 : Int32) (σ : CS) : Option (Int32 × CS) := bnd (f_M_bad z1 1 σ) (fun r24 σ24 => if r24 = 0 then bnd (f_M_in x1 3 6 (sF (sF (sF (sF σ24 7 0) 18 0) 19 0) 20 (-1))) (fun r56 σ56 => if r56 = 0 then some ((-2), σ56) else L_M_walk_67 (B_M_walk_94) x1 FU 0 σ56) else some (0, σ24))
set_option maxHeartbeats 4000000 in
set_option maxRecDepth 100000 in
theorem w_M_walk_23 (C : Cx g p s m args meth c A 3 cX12_walk yX12_walk.cls) (hr : meth.sig.returnType = (some .int))  {res : Int32 × CS}   (x1 : Int32) (z1 : Int32)  (σ : CS) (h : B_M_walk_23 x1 z1 σ = some res) : NMI g p l e s m args below meth c A 161 6423 3 am Rr res σ [(0, .ref (am 112)), (1, .int x1)] 23 [.int z1, .ref (am 112)] := by
  unfold B_M_walk_23 at h
  refine nw_iconst (v := 1) C dX12_walk_23 (by decide) ?_
  refine nm_callVI (q0 := 0) (As := [.int z1, .int 1]) (rest := []) C h (fun _ _ e => c_M_bad e) tw_1924 kv_X12_bad ml_O rfl ⟨Nat.le_of_ble_eq_true rfl, Nat.le_of_ble_eq_true rfl⟩ rfl dX12_walk_24 rfl (Nat.le_of_ble_eq_true rfl) (fun r24 σ24 h => ?_)
  refine nw_if_eq (tgt := 32) C dX12_walk_27 (by decide) h (fun _ h => ?_) (fun _ h => ?_)
  · refine nw_aload_n C dX12_walk_32 rfl 0 rfl ?_
    refine nw_iconst (v := 0) C dX12_walk_33 (by decide) ?_
    refine nw_put (ty := .int) C in_X12 0 ml_O rfl 7 (by decide) tyX12 tyX12_ok nmX12 tw_1580 rfl rfl (by decide +kernel) rfl rfl (Nat.le_of_ble_eq_true rfl) dX12_walk_34 ms_7 ?_
    refine nw_aload_n C dX12_walk_37 rfl 0 rfl ?_
    refine nw_iconst (v := 0) C dX12_walk_38 (by decide) ?_
    refine nw_put (ty := .int) C in_X12 0 ml_O rfl 18 (by decide) tyX12 tyX12_ok nmX12 tw_1591 rfl rfl (by decide +kernel) rfl rfl (Nat.le_of_ble_eq_true rfl) dX12_walk_39 ms_18 ?_
    refine nw_aload_n C dX12_walk_42 rfl 0 rfl ?_
    refine nw_iconst (v := 0) C dX12_walk_43 (by decide) ?_
    refine nw_put (ty := .int) C in_X12 0 ml_O rfl 19 (by decide) tyX12 tyX12_ok nmX12 tw_1592 rfl rfl (by decide +kernel) rfl rfl (Nat.le_of_ble_eq_true rfl) dX12_walk_44 ms_19 ?_
    refine nw_aload_n C dX12_walk_47 rfl 0 rfl ?_
    refine nw_iconst (v := (-1)) C dX12_walk_48 (by decide) ?_
    refine nw_put (ty := .int) C in_X12 0 ml_O rfl 20 (by decide) tyX12 tyX12_ok nmX12 tw_1593 rfl rfl (by decide +kernel) rfl rfl (Nat.le_of_ble_eq_true rfl) dX12_walk_49 ms_20 ?_
    refine nw_iload_n C dX12_walk_52 rfl 1 rfl ?_
    refine nw_iconst (v := 3) C dX12_walk_53 (by decide) ?_
    refine nw_bipush (v := 6) C dX12_walk_54 (by decide) ?_
    refine nm_callSI  (As := [.int x1, .int 3, .int 6]) (rest := []) C h (fun _ _ e => c_M_in e) tw_1918 ks_X12_in ⟨Nat.le_of_ble_eq_true rfl, Nat.le_of_ble_eq_true rfl⟩ rfl dX12_walk_56 rfl (Nat.le_of_ble_eq_true rfl) (fun r56 σ56 h => ?_)
    refine nw_if_ne (tgt := 65) C dX12_walk_59 (by decide) h (fun _ h => ?_) (fun _ h => ?_)
    · refine nw_bipush (v := (-2)) C dX12_walk_62 (by decide) ?_
      exact nm_iret C hr dX12_walk_64 h
    · refine nw_iconst (v := 0) C dX12_walk_65 (by decide) ?_
      refine nw_istore_n (lv' := [(2, .int 0), (0, .ref (am 112)), (1, .int x1)]) C dX12_walk_66 rfl (by decide) rfl ?_
      exact nw_lv (lv' := [(0, .ref (am 112)), (1, .int x1), (2, .int 0)]) [1, 2, 0] rfl (w_M_walk_67 C hr x1 (fun x1_ σ_ h_ => w_M_walk_94 C hr x1_ σ_ h_) FU 0 _ h)
  · refine nw_iconst (v := 0) C dX12_walk_30 (by decide) ?_
    exact nm_iret C hr dX12_walk_31 h
def f_M_walk (p0 : Int32) (σ : CS) : Option (Int32 × CS) := if p0 < 0 then B_M_walk_23 p0 1 (sF σ 0 0) else if p0 ≤ (σ.1 7) then B_M_walk_23 p0 0 (sF σ 0 0) else B_M_walk_23 p0 1 (sF σ 0 0)
set_option maxHeartbeats 4000000 in
set_option maxRecDepth 100000 in
theorem c_M_walk {l : Launch} {g : EG} {am : Nat → Nat} {Rr : va_W} {σ σ' : CS} {r : Int32} {p0 : Int32}  (h : f_M_walk p0 σ = some (r, σ')) : CmI l g yX12_walk (.code yX12_walk cX12_walk 3 (some .int)) 161 6423 am Rr σ [.ref (am 112), .int p0] r σ' := by
  refine Ct.of rfl (by decide) (Nat.le_of_ble_eq_true rfl) ?_
  intro p e s m args below meth c A C hr
  show NMI g p l e s m args below meth c A 161 6423 3 am Rr (r, σ') σ [(0, .ref (am 112)), (1, .int p0)] 0 []
  unfold f_M_walk at h
  refine nw_aload_n C dX12_walk_0 rfl 0 rfl ?_
  refine nw_iconst (v := 0) C dX12_walk_1 (by decide) ?_
  refine nw_put (ty := .int) C in_X12 0 ml_O rfl 0 (by decide) tyX12 tyX12_ok nmX12 tw_1573 rfl rfl (by decide +kernel) rfl rfl (Nat.le_of_ble_eq_true rfl) dX12_walk_2 ms_0 ?_
  refine nw_aload_n C dX12_walk_5 rfl 0 rfl ?_
  refine nw_iload_n C dX12_walk_6 rfl 1 rfl ?_
  refine nw_if_lt (tgt := 18) C dX12_walk_7 (by decide) h (fun _ h => ?_) (fun _ h => ?_)
  · refine nw_iconst (v := 1) C dX12_walk_18 (by decide) ?_
    refine nw_goto (tgt := 23) C dX12_walk_19 (by decide) ?_
    exact nw_lv (lv' := [(0, .ref (am 112)), (1, .int p0)]) [0, 1] rfl (w_M_walk_23 C hr p0 1 _ h)
  · refine nw_iload_n C dX12_walk_10 rfl 1 rfl ?_
    refine nw_aload_n C dX12_walk_11 rfl 0 rfl ?_
    refine nw_get (v := .int (σ.1 7)) C in_X12 0 ml_O rfl 7 (by decide) tw_1580 rfl rfl dX12_walk_12 ?_
    refine nw_icmp_le (tgt := 22) C dX12_walk_15 (by decide) h (fun _ h => ?_) (fun _ h => ?_)
    · refine nw_iconst (v := 0) C dX12_walk_22 (by decide) ?_
      exact nw_lv (lv' := [(0, .ref (am 112)), (1, .int p0)]) [0, 1] rfl (w_M_walk_23 C hr p0 0 _ h)
    · refine nw_iconst (v := 1) C dX12_walk_18 (by decide) ?_
      refine nw_goto (tgt := 23) C dX12_walk_19 (by decide) ?_
      exact nw_lv (lv' := [(0, .ref (am 112)), (1, .int p0)]) [0, 1] rfl (w_M_walk_23 C hr p0 1 _ h)
theorem dX12_walked_0 : decode cX12_walked 0 = .ok (.aload_n 0, 1) := by decide +kernel
theorem dX12_walked_1 : decode cX12_walked 1 = .ok (.iconst 0, 1) := by decide +kernel
theorem dX12_walked_2 : decode cX12_walked 2 = .ok (.putfield 253, 3) := by decide +kernel
theorem dX12_walked_5 : decode cX12_walked 5 = .ok (.iload_n 1, 1) := by decide +kernel
theorem dX12_walked_6 : decode cX12_walked 6 = .ok (.iconst 0, 1) := by decide +kernel
theorem dX12_walked_7 : decode cX12_walked 7 = .ok (.aload_n 0, 1) := by decide +kernel
theorem dX12_walked_8 : decode cX12_walked 8 = .ok (.getfield 338, 3) := by decide +kernel
theorem dX12_walked_11 : decode cX12_walked 11 = .ok (.iconst 1, 1) := by decide +kernel
theorem dX12_walked_12 : decode cX12_walked 12 = .ok (.isub, 1) := by decide +kernel
theorem dX12_walked_13 : decode cX12_walked 13 = .ok (.invokestatic 257, 3) := by decide +kernel
theorem dX12_walked_16 : decode cX12_walked 16 = .ok (.ifCond .eq 12, 3) := by decide +kernel
theorem dX12_walked_19 : decode cX12_walked 19 = .ok (.aload_n 0, 1) := by decide +kernel
theorem dX12_walked_20 : decode cX12_walked 20 = .ok (.getfield 41, 3) := by decide +kernel
theorem dX12_walked_23 : decode cX12_walked 23 = .ok (.iload_n 1, 1) := by decide +kernel
theorem dX12_walked_24 : decode cX12_walked 24 = .ok (.iaload, 1) := by decide +kernel
theorem dX12_walked_25 : decode cX12_walked 25 = .ok (.goto 4, 3) := by decide +kernel
theorem dX12_walked_28 : decode cX12_walked 28 = .ok (.iconst (-1), 1) := by decide +kernel
theorem dX12_walked_29 : decode cX12_walked 29 = .ok (.ireturn, 1) := by decide +kernel
def f_M_walked (p0 : Int32) (σ : CS) : Option (Int32 × CS) := bnd (f_M_in p0 0 ((σ.1 18) - 1) (sF σ 0 0)) (fun r13 σ13 => if r13 = 0 then some ((-1), σ13) else gix p0 6 (some ((rd σ13 17 p0), σ13)))
set_option maxHeartbeats 4000000 in
set_option maxRecDepth 100000 in
theorem c_M_walked {l : Launch} {g : EG} {am : Nat → Nat} {Rr : va_W} {σ σ' : CS} {r : Int32} {p0 : Int32}  (h : f_M_walked p0 σ = some (r, σ')) : CmI l g yX12_walked (.code yX12_walked cX12_walked 2 (some .int)) 1 22 am Rr σ [.ref (am 112), .int p0] r σ' := by
  refine Ct.of rfl (by decide) (Nat.le_of_ble_eq_true rfl) ?_
  intro p e s m args below meth c A C hr
  show NMI g p l e s m args below meth c A 1 22 2 am Rr (r, σ') σ [(0, .ref (am 112)), (1, .int p0)] 0 []
  unfold f_M_walked at h
  refine nw_aload_n C dX12_walked_0 rfl 0 rfl ?_
  refine nw_iconst (v := 0) C dX12_walked_1 (by decide) ?_
  refine nw_put (ty := .int) C in_X12 0 ml_O rfl 0 (by decide) tyX12 tyX12_ok nmX12 tw_1573 rfl rfl (by decide +kernel) rfl rfl (Nat.le_of_ble_eq_true rfl) dX12_walked_2 ms_0 ?_
  refine nw_iload_n C dX12_walked_5 rfl 1 rfl ?_
  refine nw_iconst (v := 0) C dX12_walked_6 (by decide) ?_
  refine nw_aload_n C dX12_walked_7 rfl 0 rfl ?_
  refine nw_get (v := .int (σ.1 18)) C in_X12 0 ml_O rfl 18 (by decide) tw_1591 rfl rfl dX12_walked_8 ?_
  refine nw_iconst (v := 1) C dX12_walked_11 (by decide) ?_
  refine nw_isub C dX12_walked_12 ?_
  refine nm_callSI  (As := [.int p0, .int 0, .int ((σ.1 18) - 1)]) (rest := []) C h (fun _ _ e => c_M_in e) tw_1918 ks_X12_in ⟨Nat.le_of_ble_eq_true rfl, Nat.le_of_ble_eq_true rfl⟩ rfl dX12_walked_13 rfl (Nat.le_of_ble_eq_true rfl) (fun r13 σ13 h => ?_)
  refine nw_if_eq (tgt := 28) C dX12_walked_16 (by decide) h (fun _ h => ?_) (fun _ h => ?_)
  · refine nw_iconst (v := (-1)) C dX12_walked_28 (by decide) ?_
    exact nm_iret C hr dX12_walked_29 h
  · refine nw_aload_n C dX12_walked_19 rfl 0 rfl ?_
    refine nw_get (v := .ref (am 17)) C in_X12 0 ml_O rfl 17 (by decide) tw_1590 rfl mf_17 dX12_walked_20 ?_
    refine nw_iload_n C dX12_walked_23 rfl 1 rfl ?_
    refine nw_iald C 11 ml_17 dX12_walked_24 h (fun h => ?_)
    refine nw_goto (tgt := 29) C dX12_walked_25 (by decide) ?_
    exact nm_iret C hr dX12_walked_29 h
theorem dX12_rivals_0 : decode cX12_rivals 0 = .ok (.aload_n 0, 1) := by decide +kernel
theorem dX12_rivals_1 : decode cX12_rivals 1 = .ok (.iconst 0, 1) := by decide +kernel
theorem dX12_rivals_2 : decode cX12_rivals 2 = .ok (.putfield 253, 3) := by decide +kernel
theorem dX12_rivals_5 : decode cX12_rivals 5 = .ok (.aload_n 0, 1) := by decide +kernel
theorem dX12_rivals_6 : decode cX12_rivals 6 = .ok (.getfield 325, 3) := by decide +kernel
theorem dX12_rivals_9 : decode cX12_rivals 9 = .ok (.iconst 1, 1) := by decide +kernel
theorem dX12_rivals_10 : decode cX12_rivals 10 = .ok (.isub, 1) := by decide +kernel
theorem dX12_rivals_11 : decode cX12_rivals 11 = .ok (.ireturn, 1) := by decide +kernel
def f_M_rivals  (σ : CS) : Option (Int32 × CS) := some (((σ.1 19) - 1), (sF σ 0 0))
set_option maxHeartbeats 4000000 in
set_option maxRecDepth 100000 in
theorem c_M_rivals {l : Launch} {g : EG} {am : Nat → Nat} {Rr : va_W} {σ σ' : CS} {r : Int32}   (h : f_M_rivals σ = some (r, σ')) : CmI l g yX12_rivals (.code yX12_rivals cX12_rivals 1 (some .int)) 0 0 am Rr σ [.ref (am 112)] r σ' := by
  refine Ct.of rfl (by decide) (Nat.le_of_ble_eq_true rfl) ?_
  intro p e s m args below meth c A C hr
  show NMI g p l e s m args below meth c A 0 0 1 am Rr (r, σ') σ [(0, .ref (am 112))] 0 []
  unfold f_M_rivals at h
  refine nw_aload_n C dX12_rivals_0 rfl 0 rfl ?_
  refine nw_iconst (v := 0) C dX12_rivals_1 (by decide) ?_
  refine nw_put (ty := .int) C in_X12 0 ml_O rfl 0 (by decide) tyX12 tyX12_ok nmX12 tw_1573 rfl rfl (by decide +kernel) rfl rfl (Nat.le_of_ble_eq_true rfl) dX12_rivals_2 ms_0 ?_
  refine nw_aload_n C dX12_rivals_5 rfl 0 rfl ?_
  refine nw_get (v := .int (σ.1 19)) C in_X12 0 ml_O rfl 19 (by decide) tw_1592 rfl rfl dX12_rivals_6 ?_
  refine nw_iconst (v := 1) C dX12_rivals_9 (by decide) ?_
  refine nw_isub C dX12_rivals_10 ?_
  exact nm_iret C hr dX12_rivals_11 h
theorem dX12_byteAt_0 : decode cX12_byteAt 0 = .ok (.iload_n 1, 1) := by decide +kernel
theorem dX12_byteAt_1 : decode cX12_byteAt 1 = .ok (.aload_n 0, 1) := by decide +kernel
theorem dX12_byteAt_2 : decode cX12_byteAt 2 = .ok (.getfield 341, 3) := by decide +kernel
theorem dX12_byteAt_5 : decode cX12_byteAt 5 = .ok (.if_icmp .ge 16, 3) := by decide +kernel
theorem dX12_byteAt_8 : decode cX12_byteAt 8 = .ok (.aload_n 0, 1) := by decide +kernel
theorem dX12_byteAt_9 : decode cX12_byteAt 9 = .ok (.getfield 19, 3) := by decide +kernel
theorem dX12_byteAt_12 : decode cX12_byteAt 12 = .ok (.iload_n 1, 1) := by decide +kernel
theorem dX12_byteAt_13 : decode cX12_byteAt 13 = .ok (.baload, 1) := by decide +kernel
theorem dX12_byteAt_14 : decode cX12_byteAt 14 = .ok (.sipush 255, 3) := by decide +kernel
theorem dX12_byteAt_17 : decode cX12_byteAt 17 = .ok (.iand, 1) := by decide +kernel
theorem dX12_byteAt_18 : decode cX12_byteAt 18 = .ok (.goto 4, 3) := by decide +kernel
theorem dX12_byteAt_21 : decode cX12_byteAt 21 = .ok (.iconst 0, 1) := by decide +kernel
theorem dX12_byteAt_22 : decode cX12_byteAt 22 = .ok (.ireturn, 1) := by decide +kernel
def f_M_byteAt (p0 : Int32) (σ : CS) : Option (Int32 × CS) := if (σ.1 22) ≤ p0 then some (0, σ) else gix p0 400 (some (((rd σ 6 p0) &&& 255), σ))
set_option maxHeartbeats 4000000 in
set_option maxRecDepth 100000 in
theorem c_M_byteAt {l : Launch} {g : EG} {am : Nat → Nat} {Rr : va_W} {σ σ' : CS} {r : Int32} {p0 : Int32}  (h : f_M_byteAt p0 σ = some (r, σ')) : CmI l g yX12_byteAt (.code yX12_byteAt cX12_byteAt 2 (some .int)) 0 0 am Rr σ [.ref (am 112), .int p0] r σ' := by
  refine Ct.of rfl (by decide) (Nat.le_of_ble_eq_true rfl) ?_
  intro p e s m args below meth c A C hr
  show NMI g p l e s m args below meth c A 0 0 2 am Rr (r, σ') σ [(0, .ref (am 112)), (1, .int p0)] 0 []
  unfold f_M_byteAt at h
  refine nw_iload_n C dX12_byteAt_0 rfl 1 rfl ?_
  refine nw_aload_n C dX12_byteAt_1 rfl 0 rfl ?_
  refine nw_get (v := .int (σ.1 22)) C in_X12 0 ml_O rfl 22 (by decide) tw_1595 rfl mf_22 dX12_byteAt_2 ?_
  refine nw_icmp_ge (tgt := 21) C dX12_byteAt_5 (by decide) h (fun _ h => ?_) (fun _ h => ?_)
  · refine nw_iconst (v := 0) C dX12_byteAt_21 (by decide) ?_
    exact nm_iret C hr dX12_byteAt_22 h
  · refine nw_aload_n C dX12_byteAt_8 rfl 0 rfl ?_
    refine nw_get (v := .ref (am 6)) C in_X12 0 ml_O rfl 6 (by decide) tw_1579 rfl mf_6 dX12_byteAt_9 ?_
    refine nw_iload_n C dX12_byteAt_12 rfl 1 rfl ?_
    refine nw_bald C 4 ml_6 dX12_byteAt_13 h (fun h => ?_)
    refine nw_sipush (v := 255) C dX12_byteAt_14 (by decide) ?_
    refine nw_iand C dX12_byteAt_17 ?_
    refine nw_goto (tgt := 22) C dX12_byteAt_18 (by decide) ?_
    exact nm_iret C hr dX12_byteAt_22 h
theorem dX12_blanks_0 : decode cX12_blanks 0 = .ok (.aload_n 0, 1) := by decide +kernel
theorem dX12_blanks_1 : decode cX12_blanks 1 = .ok (.getfield 343, 3) := by decide +kernel
theorem dX12_blanks_4 : decode cX12_blanks 4 = .ok (.aload_n 0, 1) := by decide +kernel
theorem dX12_blanks_5 : decode cX12_blanks 5 = .ok (.getfield 341, 3) := by decide +kernel
theorem dX12_blanks_8 : decode cX12_blanks 8 = .ok (.if_icmp .ge 29, 3) := by decide +kernel
theorem dX12_blanks_11 : decode cX12_blanks 11 = .ok (.aload_n 0, 1) := by decide +kernel
theorem dX12_blanks_12 : decode cX12_blanks 12 = .ok (.aload_n 0, 1) := by decide +kernel
theorem dX12_blanks_13 : decode cX12_blanks 13 = .ok (.getfield 343, 3) := by decide +kernel
theorem dX12_blanks_16 : decode cX12_blanks 16 = .ok (.invokevirtual 346, 3) := by decide +kernel
theorem dX12_blanks_19 : decode cX12_blanks 19 = .ok (.bipush 32, 2) := by decide +kernel
theorem dX12_blanks_21 : decode cX12_blanks 21 = .ok (.if_icmp .ne 16, 3) := by decide +kernel
theorem dX12_blanks_24 : decode cX12_blanks 24 = .ok (.aload_n 0, 1) := by decide +kernel
theorem dX12_blanks_25 : decode cX12_blanks 25 = .ok (.dup, 1) := by decide +kernel
theorem dX12_blanks_26 : decode cX12_blanks 26 = .ok (.getfield 343, 3) := by decide +kernel
theorem dX12_blanks_29 : decode cX12_blanks 29 = .ok (.iconst 1, 1) := by decide +kernel
theorem dX12_blanks_30 : decode cX12_blanks 30 = .ok (.iadd, 1) := by decide +kernel
theorem dX12_blanks_31 : decode cX12_blanks 31 = .ok (.putfield 343, 3) := by decide +kernel
theorem dX12_blanks_34 : decode cX12_blanks 34 = .ok (.goto (-34), 3) := by decide +kernel
theorem dX12_blanks_37 : decode cX12_blanks 37 = .ok (.return_, 1) := by decide +kernel
def L_M_blanks_0   : Nat → CS → Option (Int32 × CS)
  | 0, _ => none
  | n + 1, σ => if (σ.1 22) ≤ (σ.1 23) then some (0, σ) else bnd (f_M_byteAt (σ.1 23) σ) (fun r16 σ16 => if r16 = 32 then (L_M_blanks_0 n) (sF σ16 23 ((σ16.1 23) + 1)) else some (0, σ16))
set_option maxHeartbeats 4000000 in
set_option maxRecDepth 100000 in
theorem w_M_blanks_0 (C : Cx g p s m args meth c A 1 cX12_blanks yX12_blanks.cls) (hr : meth.sig.returnType = none)  {res : Int32 × CS}    : ∀ (n : Nat)  (σ : CS), L_M_blanks_0 n σ = some res → NMV g p l e s m args below meth c A 1 21 1 am Rr res σ [(0, .ref (am 112))] 0 [] := by
  intro n
  induction n with
  | zero =>
    intro  σ h
    exact absurd (show (none : Option (Int32 × CS)) = some res from h) (by intro h9; cases h9)
  | succ n ih =>
    intro  σ h
    rw [L_M_blanks_0] at h
    refine nw_aload_n C dX12_blanks_0 rfl 0 rfl ?_
    refine nw_get (v := .int (σ.1 23)) C in_X12 0 ml_O rfl 23 (by decide) tw_1596 rfl mf_23 dX12_blanks_1 ?_
    refine nw_aload_n C dX12_blanks_4 rfl 0 rfl ?_
    refine nw_get (v := .int (σ.1 22)) C in_X12 0 ml_O rfl 22 (by decide) tw_1595 rfl mf_22 dX12_blanks_5 ?_
    refine nw_icmp_ge (tgt := 37) C dX12_blanks_8 (by decide) h (fun _ h => ?_) (fun _ h => ?_)
    · exact nm_vret C hr dX12_blanks_37 h
    · refine nw_aload_n C dX12_blanks_11 rfl 0 rfl ?_
      refine nw_aload_n C dX12_blanks_12 rfl 0 rfl ?_
      refine nw_get (v := .int (σ.1 23)) C in_X12 0 ml_O rfl 23 (by decide) tw_1596 rfl mf_23 dX12_blanks_13 ?_
      refine nm_callVI (q0 := 0) (As := [.int (σ.1 23)]) (rest := []) C h (fun _ _ e => c_M_byteAt e) tw_2025 kv_X12_byteAt ml_O rfl ⟨Nat.le_of_ble_eq_true rfl, Nat.le_of_ble_eq_true rfl⟩ rfl dX12_blanks_16 rfl (Nat.le_of_ble_eq_true rfl) (fun r16 σ16 h => ?_)
      refine nw_bipush (v := 32) C dX12_blanks_19 (by decide) ?_
      refine nw_icmp_ne (tgt := 37) C dX12_blanks_21 (by decide) h (fun _ h => ?_) (fun _ h => ?_)
      · refine nw_aload_n C dX12_blanks_24 rfl 0 rfl ?_
        refine nw_dup C dX12_blanks_25 rfl ?_
        refine nw_get (v := .int (σ16.1 23)) C in_X12 0 ml_O rfl 23 (by decide) tw_1596 rfl mf_23 dX12_blanks_26 ?_
        refine nw_iconst (v := 1) C dX12_blanks_29 (by decide) ?_
        refine nw_iadd C dX12_blanks_30 ?_
        refine nw_put (ty := .int) C in_X12 0 ml_O rfl 23 (by decide) tyX12 tyX12_ok nmX12 tw_1596 rfl rfl (by decide +kernel) rfl rfl (Nat.le_of_ble_eq_true rfl) dX12_blanks_31 ms_23 ?_
        refine nw_goto (tgt := 0) C dX12_blanks_34 (by decide) ?_
        exact nw_lv (lv' := [(0, .ref (am 112))]) [0] rfl (ih  _ h)
      · exact nm_vret C hr dX12_blanks_37 h
def f_M_blanks  (σ : CS) : Option (Int32 × CS) := L_M_blanks_0 FU σ
set_option maxHeartbeats 4000000 in
set_option maxRecDepth 100000 in
theorem c_M_blanks {l : Launch} {g : EG} {am : Nat → Nat} {Rr : va_W} {σ σ' : CS} {r : Int32}   (h : f_M_blanks σ = some (r, σ')) : CmV l g yX12_blanks (.code yX12_blanks cX12_blanks 1 none) 1 21 am Rr σ [.ref (am 112)] r σ' := by
  refine Ct.of rfl (by decide) (Nat.le_of_ble_eq_true rfl) ?_
  intro p e s m args below meth c A C hr
  show NMV g p l e s m args below meth c A 1 21 1 am Rr (r, σ') σ [(0, .ref (am 112))] 0 []
  unfold f_M_blanks at h
  exact nw_lv (lv' := [(0, .ref (am 112))]) [0] rfl (w_M_blanks_0 C hr FU _ h)
theorem dX12_isDigit_0 : decode cX12_isDigit 0 = .ok (.iload_n 0, 1) := by decide +kernel
theorem dX12_isDigit_1 : decode cX12_isDigit 1 = .ok (.bipush 48, 2) := by decide +kernel
theorem dX12_isDigit_3 : decode cX12_isDigit 3 = .ok (.if_icmp .lt 13, 3) := by decide +kernel
theorem dX12_isDigit_6 : decode cX12_isDigit 6 = .ok (.iload_n 0, 1) := by decide +kernel
theorem dX12_isDigit_7 : decode cX12_isDigit 7 = .ok (.bipush 57, 2) := by decide +kernel
theorem dX12_isDigit_9 : decode cX12_isDigit 9 = .ok (.if_icmp .gt 7, 3) := by decide +kernel
theorem dX12_isDigit_12 : decode cX12_isDigit 12 = .ok (.iconst 1, 1) := by decide +kernel
theorem dX12_isDigit_13 : decode cX12_isDigit 13 = .ok (.goto 4, 3) := by decide +kernel
theorem dX12_isDigit_16 : decode cX12_isDigit 16 = .ok (.iconst 0, 1) := by decide +kernel
theorem dX12_isDigit_17 : decode cX12_isDigit 17 = .ok (.ireturn, 1) := by decide +kernel
def f_M_isDigit (p0 : Int32) (σ : CS) : Option (Int32 × CS) := if p0 < 48 then some (0, σ) else if 57 < p0 then some (0, σ) else some (1, σ)
set_option maxHeartbeats 4000000 in
set_option maxRecDepth 100000 in
theorem c_M_isDigit {l : Launch} {g : EG} {am : Nat → Nat} {Rr : va_W} {σ σ' : CS} {r : Int32} {p0 : Int32}  (h : f_M_isDigit p0 σ = some (r, σ')) : CmI l g yX12_isDigit (.code yX12_isDigit cX12_isDigit 1 (some .boolean)) 0 0 am Rr σ [.int p0] r σ' := by
  refine Ct.of rfl (by decide) (Nat.le_of_ble_eq_true rfl) ?_
  intro p e s m args below meth c A C hr
  show NMI g p l e s m args below meth c A 0 0 1 am Rr (r, σ') σ [(0, .int p0)] 0 []
  unfold f_M_isDigit at h
  refine nw_iload_n C dX12_isDigit_0 rfl 0 rfl ?_
  refine nw_bipush (v := 48) C dX12_isDigit_1 (by decide) ?_
  refine nw_icmp_lt (tgt := 16) C dX12_isDigit_3 (by decide) h (fun _ h => ?_) (fun _ h => ?_)
  · refine nw_iconst (v := 0) C dX12_isDigit_16 (by decide) ?_
    exact nm_zret C hr (Or.inl rfl) dX12_isDigit_17 h
  · refine nw_iload_n C dX12_isDigit_6 rfl 0 rfl ?_
    refine nw_bipush (v := 57) C dX12_isDigit_7 (by decide) ?_
    refine nw_icmp_gt (tgt := 16) C dX12_isDigit_9 (by decide) h (fun _ h => ?_) (fun _ h => ?_)
    · refine nw_iconst (v := 0) C dX12_isDigit_16 (by decide) ?_
      exact nm_zret C hr (Or.inl rfl) dX12_isDigit_17 h
    · refine nw_iconst (v := 1) C dX12_isDigit_12 (by decide) ?_
      refine nw_goto (tgt := 17) C dX12_isDigit_13 (by decide) ?_
      exact nm_zret C hr (Or.inr rfl) dX12_isDigit_17 h
theorem dX12_wrong_0 : decode cX12_wrong 0 = .ok (.aload_n 0, 1) := by decide +kernel
theorem dX12_wrong_1 : decode cX12_wrong 1 = .ok (.getfield 349, 3) := by decide +kernel
theorem dX12_wrong_4 : decode cX12_wrong 4 = .ok (.ifCond .le 4, 3) := by decide +kernel
theorem dX12_wrong_7 : decode cX12_wrong 7 = .ok (.return_, 1) := by decide +kernel
theorem dX12_wrong_8 : decode cX12_wrong 8 = .ok (.aload_n 0, 1) := by decide +kernel
theorem dX12_wrong_9 : decode cX12_wrong 9 = .ok (.iload_n 1, 1) := by decide +kernel
theorem dX12_wrong_10 : decode cX12_wrong 10 = .ok (.putfield 349, 3) := by decide +kernel
theorem dX12_wrong_13 : decode cX12_wrong 13 = .ok (.aload_n 0, 1) := by decide +kernel
theorem dX12_wrong_14 : decode cX12_wrong 14 = .ok (.iload_n 2, 1) := by decide +kernel
theorem dX12_wrong_15 : decode cX12_wrong 15 = .ok (.putfield 44, 3) := by decide +kernel
theorem dX12_wrong_18 : decode cX12_wrong 18 = .ok (.return_, 1) := by decide +kernel
def f_M_wrong (p0 : Int32) (p1 : Int32) (σ : CS) : Option (Int32 × CS) := if (σ.1 24) ≤ 0 then some (0, (sF (sF σ 24 p0) 25 p1)) else some (0, σ)
set_option maxHeartbeats 4000000 in
set_option maxRecDepth 100000 in
theorem c_M_wrong {l : Launch} {g : EG} {am : Nat → Nat} {Rr : va_W} {σ σ' : CS} {r : Int32} {p0 : Int32} {p1 : Int32}  (h : f_M_wrong p0 p1 σ = some (r, σ')) : CmV l g yX12_wrong (.code yX12_wrong cX12_wrong 3 none) 0 0 am Rr σ [.ref (am 112), .int p0, .int p1] r σ' := by
  refine Ct.of rfl (by decide) (Nat.le_of_ble_eq_true rfl) ?_
  intro p e s m args below meth c A C hr
  show NMV g p l e s m args below meth c A 0 0 3 am Rr (r, σ') σ [(0, .ref (am 112)), (1, .int p0), (2, .int p1)] 0 []
  unfold f_M_wrong at h
  refine nw_aload_n C dX12_wrong_0 rfl 0 rfl ?_
  refine nw_get (v := .int (σ.1 24)) C in_X12 0 ml_O rfl 24 (by decide) tw_1597 rfl mf_24 dX12_wrong_1 ?_
  refine nw_if_le (tgt := 8) C dX12_wrong_4 (by decide) h (fun _ h => ?_) (fun _ h => ?_)
  · refine nw_aload_n C dX12_wrong_8 rfl 0 rfl ?_
    refine nw_iload_n C dX12_wrong_9 rfl 1 rfl ?_
    refine nw_put (ty := .int) C in_X12 0 ml_O rfl 24 (by decide) tyX12 tyX12_ok nmX12 tw_1597 rfl rfl (by decide +kernel) rfl rfl (Nat.le_of_ble_eq_true rfl) dX12_wrong_10 ms_24 ?_
    refine nw_aload_n C dX12_wrong_13 rfl 0 rfl ?_
    refine nw_iload_n C dX12_wrong_14 rfl 2 rfl ?_
    refine nw_put (ty := .int) C in_X12 0 ml_O rfl 25 (by decide) tyX12 tyX12_ok nmX12 tw_1598 rfl rfl (by decide +kernel) rfl rfl (Nat.le_of_ble_eq_true rfl) dX12_wrong_15 ms_25 ?_
    exact nm_vret C hr dX12_wrong_18 h
  · exact nm_vret C hr dX12_wrong_7 h
theorem dX12_isWord_0 : decode cX12_isWord 0 = .ok (.aload_n 0, 1) := by decide +kernel
theorem dX12_isWord_1 : decode cX12_isWord 1 = .ok (.invokevirtual 352, 3) := by decide +kernel
theorem dX12_isWord_4 : decode cX12_isWord 4 = .ok (.iconst 0, 1) := by decide +kernel
theorem dX12_isWord_5 : decode cX12_isWord 5 = .ok (.istore_n 2, 1) := by decide +kernel
theorem dX12_isWord_6 : decode cX12_isWord 6 = .ok (.iload_n 2, 1) := by decide +kernel
theorem dX12_isWord_7 : decode cX12_isWord 7 = .ok (.aload_n 1, 1) := by decide +kernel
theorem dX12_isWord_8 : decode cX12_isWord 8 = .ok (.invokevirtual 355, 3) := by decide +kernel
theorem dX12_isWord_11 : decode cX12_isWord 11 = .ok (.if_icmp .ge 29, 3) := by decide +kernel
theorem dX12_isWord_14 : decode cX12_isWord 14 = .ok (.aload_n 0, 1) := by decide +kernel
theorem dX12_isWord_15 : decode cX12_isWord 15 = .ok (.aload_n 0, 1) := by decide +kernel
theorem dX12_isWord_16 : decode cX12_isWord 16 = .ok (.getfield 343, 3) := by decide +kernel
theorem dX12_isWord_19 : decode cX12_isWord 19 = .ok (.iload_n 2, 1) := by decide +kernel
theorem dX12_isWord_20 : decode cX12_isWord 20 = .ok (.iadd, 1) := by decide +kernel
theorem dX12_isWord_21 : decode cX12_isWord 21 = .ok (.invokevirtual 346, 3) := by decide +kernel
theorem dX12_isWord_24 : decode cX12_isWord 24 = .ok (.aload_n 1, 1) := by decide +kernel
theorem dX12_isWord_25 : decode cX12_isWord 25 = .ok (.iload_n 2, 1) := by decide +kernel
theorem dX12_isWord_26 : decode cX12_isWord 26 = .ok (.invokevirtual 360, 3) := by decide +kernel
theorem dX12_isWord_29 : decode cX12_isWord 29 = .ok (.if_icmp .eq 5, 3) := by decide +kernel
theorem dX12_isWord_32 : decode cX12_isWord 32 = .ok (.iconst 0, 1) := by decide +kernel
theorem dX12_isWord_33 : decode cX12_isWord 33 = .ok (.ireturn, 1) := by decide +kernel
theorem dX12_isWord_34 : decode cX12_isWord 34 = .ok (.iinc 2 1, 3) := by decide +kernel
theorem dX12_isWord_37 : decode cX12_isWord 37 = .ok (.goto (-31), 3) := by decide +kernel
theorem dX12_isWord_40 : decode cX12_isWord 40 = .ok (.aload_n 0, 1) := by decide +kernel
theorem dX12_isWord_41 : decode cX12_isWord 41 = .ok (.aload_n 0, 1) := by decide +kernel
theorem dX12_isWord_42 : decode cX12_isWord 42 = .ok (.getfield 343, 3) := by decide +kernel
theorem dX12_isWord_45 : decode cX12_isWord 45 = .ok (.aload_n 1, 1) := by decide +kernel
theorem dX12_isWord_46 : decode cX12_isWord 46 = .ok (.invokevirtual 355, 3) := by decide +kernel
theorem dX12_isWord_49 : decode cX12_isWord 49 = .ok (.iadd, 1) := by decide +kernel
theorem dX12_isWord_50 : decode cX12_isWord 50 = .ok (.invokevirtual 346, 3) := by decide +kernel
theorem dX12_isWord_53 : decode cX12_isWord 53 = .ok (.istore_n 2, 1) := by decide +kernel
theorem dX12_isWord_54 : decode cX12_isWord 54 = .ok (.iload_n 2, 1) := by decide +kernel
theorem dX12_isWord_55 : decode cX12_isWord 55 = .ok (.bipush 97, 2) := by decide +kernel
theorem dX12_isWord_57 : decode cX12_isWord 57 = .ok (.if_icmp .lt 9, 3) := by decide +kernel
theorem dX12_isWord_60 : decode cX12_isWord 60 = .ok (.iload_n 2, 1) := by decide +kernel
theorem dX12_isWord_61 : decode cX12_isWord 61 = .ok (.bipush 122, 2) := by decide +kernel
theorem dX12_isWord_63 : decode cX12_isWord 63 = .ok (.if_icmp .le 7, 3) := by decide +kernel
theorem dX12_isWord_66 : decode cX12_isWord 66 = .ok (.iconst 1, 1) := by decide +kernel
theorem dX12_isWord_67 : decode cX12_isWord 67 = .ok (.goto 4, 3) := by decide +kernel
theorem dX12_isWord_70 : decode cX12_isWord 70 = .ok (.iconst 0, 1) := by decide +kernel
theorem dX12_isWord_71 : decode cX12_isWord 71 = .ok (.ireturn, 1) := by decide +kernel
def L_M_isWord_6 (s0 : Nat) (k40 : CS → Option (Int32 × CS))  : Nat → Int32 → CS → Option (Int32 × CS)
  | 0, _, _ => none
  | n + 1, x2, σ => if (slen s0) ≤ x2 then k40 σ else bnd (f_M_byteAt ((σ.1 23) + x2) σ) (fun r21 σ21 => gix x2 (lenS.getD s0 0) (if r21 = (sch s0 x2) then (L_M_isWord_6 s0 k40 n) (x2 + 1) σ21 else some (0, σ21)))
set_option maxHeartbeats 4000000 in
set_option maxRecDepth 100000 in
theorem w_M_isWord_6 (C : Cx g p s m args meth c A 3 cX12_isWord yX12_isWord.cls) (hr : meth.sig.returnType = (some .boolean)) {s0 : Nat} (hstr : s0 < nS) {res : Int32 × CS}   {k40 : CS → Option (Int32 × CS)} (hk40 : ∀  (σ : CS), k40  σ = some res → NMI g p l e s m args below meth c A 4 130 3 am Rr res σ [(0, .ref (am 112)), (1, .ref (gK g s0))] 40 []) : ∀ (n : Nat) (x2 : Int32) (σ : CS), L_M_isWord_6 s0 k40 n x2 σ = some res → NMI g p l e s m args below meth c A 4 130 3 am Rr res σ [(0, .ref (am 112)), (1, .ref (gK g s0)), (2, .int x2)] 6 [] := by
  intro n
  induction n with
  | zero =>
    intro x2 σ h
    exact absurd (show (none : Option (Int32 × CS)) = some res from h) (by intro h9; cases h9)
  | succ n ih =>
    intro x2 σ h
    rw [L_M_isWord_6] at h
    refine nw_iload_n C dX12_isWord_6 rfl 2 rfl ?_
    refine nw_aload_n C dX12_isWord_7 rfl 1 rfl ?_
    refine nw_strlen C hstr tw_2048 ⟨Nat.le_of_ble_eq_true rfl, Nat.le_of_ble_eq_true rfl⟩ ⟨Nat.le_refl _, Nat.le_refl _⟩ dX12_isWord_8 (Nat.le_of_ble_eq_true rfl) ?_
    refine nw_icmp_ge (tgt := 40) C dX12_isWord_11 (by decide) h (fun _ h => ?_) (fun _ h => ?_)
    · exact nw_lv (lv' := [(0, .ref (am 112)), (1, .ref (gK g s0))]) [0, 1] rfl (hk40  _ h)
    · refine nw_aload_n C dX12_isWord_14 rfl 0 rfl ?_
      refine nw_aload_n C dX12_isWord_15 rfl 0 rfl ?_
      refine nw_get (v := .int (σ.1 23)) C in_X12 0 ml_O rfl 23 (by decide) tw_1596 rfl mf_23 dX12_isWord_16 ?_
      refine nw_iload_n C dX12_isWord_19 rfl 2 rfl ?_
      refine nw_iadd C dX12_isWord_20 ?_
      refine nm_callVI (q0 := 0) (As := [.int ((σ.1 23) + x2)]) (rest := []) C h (fun _ _ e => c_M_byteAt e) tw_2025 kv_X12_byteAt ml_O rfl ⟨Nat.le_of_ble_eq_true rfl, Nat.le_of_ble_eq_true rfl⟩ rfl dX12_isWord_21 rfl (Nat.le_of_ble_eq_true rfl) (fun r21 σ21 h => ?_)
      refine nw_aload_n C dX12_isWord_24 rfl 1 rfl ?_
      refine nw_iload_n C dX12_isWord_25 rfl 2 rfl ?_
      refine nw_strchr C hstr tw_2049 ⟨Nat.le_of_ble_eq_true rfl, Nat.le_of_ble_eq_true rfl⟩ ⟨Nat.le_refl _, Nat.le_refl _⟩ dX12_isWord_26 (Nat.le_of_ble_eq_true rfl) h (fun h => ?_)
      refine nw_icmp_eq (tgt := 34) C dX12_isWord_29 (by decide) h (fun _ h => ?_) (fun _ h => ?_)
      · refine nw_iinc (lv' := [(2, .int (x2 + 1)), (0, .ref (am 112)), (1, .ref (gK g s0))]) C (x2 + 1) dX12_isWord_34 2 rfl rfl (by decide) rfl ?_
        refine nw_goto (tgt := 6) C dX12_isWord_37 (by decide) ?_
        exact nw_lv (lv' := [(0, .ref (am 112)), (1, .ref (gK g s0)), (2, .int (x2 + 1))]) [1, 2, 0] rfl (ih (x2 + 1) _ h)
      · refine nw_iconst (v := 0) C dX12_isWord_32 (by decide) ?_
        exact nm_zret C hr (Or.inl rfl) dX12_isWord_33 h
def B_M_isWord_40 (s0 : Nat)    (σ : CS) : Option (Int32 × CS) := bnd (f_M_byteAt ((σ.1 23) + (slen s0)) σ) (fun r50 σ50 => if r50 < 97 then some (1, σ50) else if r50 ≤ 122 then some (0, σ50) else some (1, σ50))
set_option maxHeartbeats 4000000 in
set_option maxRecDepth 100000 in
theorem w_M_isWord_40 (C : Cx g p s m args meth c A 3 cX12_isWord yX12_isWord.cls) (hr : meth.sig.returnType = (some .boolean)) {s0 : Nat} (hstr : s0 < nS) {res : Int32 × CS}     (σ : CS) (h : B_M_isWord_40 s0 σ = some res) : NMI g p l e s m args below meth c A 4 130 3 am Rr res σ [(0, .ref (am 112)), (1, .ref (gK g s0))] 40 [] := by
  unfold B_M_isWord_40 at h
  refine nw_aload_n C dX12_isWord_40 rfl 0 rfl ?_
  refine nw_aload_n C dX12_isWord_41 rfl 0 rfl ?_
  refine nw_get (v := .int (σ.1 23)) C in_X12 0 ml_O rfl 23 (by decide) tw_1596 rfl mf_23 dX12_isWord_42 ?_
  refine nw_aload_n C dX12_isWord_45 rfl 1 rfl ?_
  refine nw_strlen C hstr tw_2048 ⟨Nat.le_of_ble_eq_true rfl, Nat.le_of_ble_eq_true rfl⟩ ⟨Nat.le_refl _, Nat.le_refl _⟩ dX12_isWord_46 (Nat.le_of_ble_eq_true rfl) ?_
  refine nw_iadd C dX12_isWord_49 ?_
  refine nm_callVI (q0 := 0) (As := [.int ((σ.1 23) + (slen s0))]) (rest := []) C h (fun _ _ e => c_M_byteAt e) tw_2025 kv_X12_byteAt ml_O rfl ⟨Nat.le_of_ble_eq_true rfl, Nat.le_of_ble_eq_true rfl⟩ rfl dX12_isWord_50 rfl (Nat.le_of_ble_eq_true rfl) (fun r50 σ50 h => ?_)
  refine nw_istore_n (lv' := [(2, .int r50), (0, .ref (am 112)), (1, .ref (gK g s0))]) C dX12_isWord_53 rfl (by decide) rfl ?_
  refine nw_iload_n C dX12_isWord_54 rfl 0 rfl ?_
  refine nw_bipush (v := 97) C dX12_isWord_55 (by decide) ?_
  refine nw_icmp_lt (tgt := 66) C dX12_isWord_57 (by decide) h (fun _ h => ?_) (fun _ h => ?_)
  · refine nw_iconst (v := 1) C dX12_isWord_66 (by decide) ?_
    refine nw_goto (tgt := 71) C dX12_isWord_67 (by decide) ?_
    exact nm_zret C hr (Or.inr rfl) dX12_isWord_71 h
  · refine nw_iload_n C dX12_isWord_60 rfl 0 rfl ?_
    refine nw_bipush (v := 122) C dX12_isWord_61 (by decide) ?_
    refine nw_icmp_le (tgt := 70) C dX12_isWord_63 (by decide) h (fun _ h => ?_) (fun _ h => ?_)
    · refine nw_iconst (v := 0) C dX12_isWord_70 (by decide) ?_
      exact nm_zret C hr (Or.inl rfl) dX12_isWord_71 h
    · refine nw_iconst (v := 1) C dX12_isWord_66 (by decide) ?_
      refine nw_goto (tgt := 71) C dX12_isWord_67 (by decide) ?_
      exact nm_zret C hr (Or.inr rfl) dX12_isWord_71 h
def f_M_isWord (s0 : Nat)  (σ : CS) : Option (Int32 × CS) := bnd (f_M_blanks σ) (fun _ σ1 => L_M_isWord_6 s0 (B_M_isWord_40 s0) FU 0 σ1)
set_option maxHeartbeats 4000000 in
set_option maxRecDepth 100000 in
theorem c_M_isWord {l : Launch} {g : EG} {am : Nat → Nat} {Rr : va_W} {σ σ' : CS} {r : Int32}  (s0 : Nat) (hstr : s0 < nS) (h : f_M_isWord s0 σ = some (r, σ')) : CmI l g yX12_isWord (.code yX12_isWord cX12_isWord 3 (some .boolean)) 4 130 am Rr σ [.ref (am 112), .ref (gK g s0)] r σ' := by
  refine Ct.of rfl (by decide) (Nat.le_of_ble_eq_true rfl) ?_
  intro p e s m args below meth c A C hr
  show NMI g p l e s m args below meth c A 4 130 3 am Rr (r, σ') σ [(0, .ref (am 112)), (1, .ref (gK g s0))] 0 []
  unfold f_M_isWord at h
  refine nw_aload_n C dX12_isWord_0 rfl 0 rfl ?_
  refine nm_callVV (q0 := 0) (As := []) (rest := []) C h (fun _ _ e => c_M_blanks e) tw_2021 kv_X12_blanks ml_O rfl ⟨Nat.le_of_ble_eq_true rfl, Nat.le_of_ble_eq_true rfl⟩ rfl dX12_isWord_1 rfl (Nat.le_of_ble_eq_true rfl) (fun r1 σ1 h => ?_)
  refine nw_iconst (v := 0) C dX12_isWord_4 (by decide) ?_
  refine nw_istore_n (lv' := [(2, .int 0), (0, .ref (am 112)), (1, .ref (gK g s0))]) C dX12_isWord_5 rfl (by decide) rfl ?_
  exact nw_lv (lv' := [(0, .ref (am 112)), (1, .ref (gK g s0)), (2, .int 0)]) [1, 2, 0] rfl (w_M_isWord_6 C hr hstr (fun σ_ h_ => w_M_isWord_40 C hr hstr σ_ h_) FU 0 _ h)
theorem dX12_eat_0 : decode cX12_eat 0 = .ok (.aload_n 0, 1) := by decide +kernel
theorem dX12_eat_1 : decode cX12_eat 1 = .ok (.getfield 349, 3) := by decide +kernel
theorem dX12_eat_4 : decode cX12_eat 4 = .ok (.ifCond .ne 15, 3) := by decide +kernel
theorem dX12_eat_7 : decode cX12_eat 7 = .ok (.aload_n 0, 1) := by decide +kernel
theorem dX12_eat_8 : decode cX12_eat 8 = .ok (.aload_n 1, 1) := by decide +kernel
theorem dX12_eat_9 : decode cX12_eat 9 = .ok (.invokevirtual 364, 3) := by decide +kernel
theorem dX12_eat_12 : decode cX12_eat 12 = .ok (.ifCond .eq 7, 3) := by decide +kernel
theorem dX12_eat_15 : decode cX12_eat 15 = .ok (.iconst 1, 1) := by decide +kernel
theorem dX12_eat_16 : decode cX12_eat 16 = .ok (.goto 4, 3) := by decide +kernel
theorem dX12_eat_19 : decode cX12_eat 19 = .ok (.iconst 0, 1) := by decide +kernel
theorem dX12_eat_20 : decode cX12_eat 20 = .ok (.istore_n 2, 1) := by decide +kernel
theorem dX12_eat_21 : decode cX12_eat 21 = .ok (.iload_n 2, 1) := by decide +kernel
theorem dX12_eat_22 : decode cX12_eat 22 = .ok (.ifCond .eq 16, 3) := by decide +kernel
theorem dX12_eat_25 : decode cX12_eat 25 = .ok (.aload_n 0, 1) := by decide +kernel
theorem dX12_eat_26 : decode cX12_eat 26 = .ok (.dup, 1) := by decide +kernel
theorem dX12_eat_27 : decode cX12_eat 27 = .ok (.getfield 343, 3) := by decide +kernel
theorem dX12_eat_30 : decode cX12_eat 30 = .ok (.aload_n 1, 1) := by decide +kernel
theorem dX12_eat_31 : decode cX12_eat 31 = .ok (.invokevirtual 355, 3) := by decide +kernel
theorem dX12_eat_34 : decode cX12_eat 34 = .ok (.iadd, 1) := by decide +kernel
theorem dX12_eat_35 : decode cX12_eat 35 = .ok (.putfield 343, 3) := by decide +kernel
theorem dX12_eat_38 : decode cX12_eat 38 = .ok (.iload_n 2, 1) := by decide +kernel
theorem dX12_eat_39 : decode cX12_eat 39 = .ok (.ireturn, 1) := by decide +kernel
def B_M_eat_20 (s0 : Nat)   (z0 : Int32) (σ : CS) : Option (Int32 × CS) := if z0 = 0 then grd (z0 = 0 ∨ z0 = 1) (some (z0, σ)) else grd (z0 = 0 ∨ z0 = 1) (some (z0, (sF σ 23 ((σ.1 23) + (slen s0)))))
set_option maxHeartbeats 4000000 in
set_option maxRecDepth 100000 in
theorem w_M_eat_20 (C : Cx g p s m args meth c A 3 cX12_eat yX12_eat.cls) (hr : meth.sig.returnType = (some .boolean)) {s0 : Nat} (hstr : s0 < nS) {res : Int32 × CS}   (z0 : Int32)  (σ : CS) (h : B_M_eat_20 s0 z0 σ = some res) : NMI g p l e s m args below meth c A 5 152 3 am Rr res σ [(0, .ref (am 112)), (1, .ref (gK g s0))] 20 [.int z0] := by
  unfold B_M_eat_20 at h
  refine nw_istore_n (lv' := [(2, .int z0), (0, .ref (am 112)), (1, .ref (gK g s0))]) C dX12_eat_20 rfl (by decide) rfl ?_
  refine nw_iload_n C dX12_eat_21 rfl 0 rfl ?_
  refine nw_if_eq (tgt := 38) C dX12_eat_22 (by decide) h (fun _ h => ?_) (fun _ h => ?_)
  · refine nw_iload_n C dX12_eat_38 rfl 0 rfl ?_
    exact nm_zretg C hr dX12_eat_39 h
  · refine nw_aload_n C dX12_eat_25 rfl 1 rfl ?_
    refine nw_dup C dX12_eat_26 rfl ?_
    refine nw_get (v := .int (σ.1 23)) C in_X12 0 ml_O rfl 23 (by decide) tw_1596 rfl mf_23 dX12_eat_27 ?_
    refine nw_aload_n C dX12_eat_30 rfl 2 rfl ?_
    refine nw_strlen C hstr tw_2048 ⟨Nat.le_of_ble_eq_true rfl, Nat.le_of_ble_eq_true rfl⟩ ⟨Nat.le_refl _, Nat.le_refl _⟩ dX12_eat_31 (Nat.le_of_ble_eq_true rfl) ?_
    refine nw_iadd C dX12_eat_34 ?_
    refine nw_put (ty := .int) C in_X12 0 ml_O rfl 23 (by decide) tyX12 tyX12_ok nmX12 tw_1596 rfl rfl (by decide +kernel) rfl rfl (Nat.le_of_ble_eq_true rfl) dX12_eat_35 ms_23 ?_
    refine nw_iload_n C dX12_eat_38 rfl 0 rfl ?_
    exact nm_zretg C hr dX12_eat_39 h
def B_M_eat_19 (s0 : Nat)    (σ : CS) : Option (Int32 × CS) := B_M_eat_20 s0 0 σ
set_option maxHeartbeats 4000000 in
set_option maxRecDepth 100000 in
theorem w_M_eat_19 (C : Cx g p s m args meth c A 3 cX12_eat yX12_eat.cls) (hr : meth.sig.returnType = (some .boolean)) {s0 : Nat} (hstr : s0 < nS) {res : Int32 × CS}     (σ : CS) (h : B_M_eat_19 s0 σ = some res) : NMI g p l e s m args below meth c A 5 152 3 am Rr res σ [(0, .ref (am 112)), (1, .ref (gK g s0))] 19 [] := by
  unfold B_M_eat_19 at h
  refine nw_iconst (v := 0) C dX12_eat_19 (by decide) ?_
  exact nw_lv (lv' := [(0, .ref (am 112)), (1, .ref (gK g s0))]) [0, 1] rfl (w_M_eat_20 C hr hstr 0 _ h)
def f_M_eat (s0 : Nat)  (σ : CS) : Option (Int32 × CS) := if (σ.1 24) = 0 then bnd (f_M_isWord s0 σ) (fun r9 σ9 => if r9 = 0 then B_M_eat_19 s0 σ9 else B_M_eat_20 s0 1 σ9) else B_M_eat_19 s0 σ
set_option maxHeartbeats 4000000 in
set_option maxRecDepth 100000 in
theorem c_M_eat {l : Launch} {g : EG} {am : Nat → Nat} {Rr : va_W} {σ σ' : CS} {r : Int32}  (s0 : Nat) (hstr : s0 < nS) (h : f_M_eat s0 σ = some (r, σ')) : CmI l g yX12_eat (.code yX12_eat cX12_eat 3 (some .boolean)) 5 152 am Rr σ [.ref (am 112), .ref (gK g s0)] r σ' := by
  refine Ct.of rfl (by decide) (Nat.le_of_ble_eq_true rfl) ?_
  intro p e s m args below meth c A C hr
  show NMI g p l e s m args below meth c A 5 152 3 am Rr (r, σ') σ [(0, .ref (am 112)), (1, .ref (gK g s0))] 0 []
  unfold f_M_eat at h
  refine nw_aload_n C dX12_eat_0 rfl 0 rfl ?_
  refine nw_get (v := .int (σ.1 24)) C in_X12 0 ml_O rfl 24 (by decide) tw_1597 rfl mf_24 dX12_eat_1 ?_
  refine nw_if_ne (tgt := 19) C dX12_eat_4 (by decide) h (fun _ h => ?_) (fun _ h => ?_)
  · refine nw_aload_n C dX12_eat_7 rfl 0 rfl ?_
    refine nw_aload_n C dX12_eat_8 rfl 1 rfl ?_
    refine nm_callVI (q0 := 0) (As := [.ref (gK g s0)]) (rest := []) C h (fun _ _ e => c_M_isWord s0 hstr e) tw_2044 kv_X12_isWord ml_O rfl ⟨Nat.le_of_ble_eq_true rfl, Nat.le_of_ble_eq_true rfl⟩ rfl dX12_eat_9 rfl (Nat.le_of_ble_eq_true rfl) (fun r9 σ9 h => ?_)
    refine nw_if_eq (tgt := 19) C dX12_eat_12 (by decide) h (fun _ h => ?_) (fun _ h => ?_)
    · exact nw_lv (lv' := [(0, .ref (am 112)), (1, .ref (gK g s0))]) [0, 1] rfl (w_M_eat_19 C hr hstr _ h)
    · refine nw_iconst (v := 1) C dX12_eat_15 (by decide) ?_
      refine nw_goto (tgt := 20) C dX12_eat_16 (by decide) ?_
      exact nw_lv (lv' := [(0, .ref (am 112)), (1, .ref (gK g s0))]) [0, 1] rfl (w_M_eat_20 C hr hstr 1 _ h)
  · exact nw_lv (lv' := [(0, .ref (am 112)), (1, .ref (gK g s0))]) [0, 1] rfl (w_M_eat_19 C hr hstr _ h)
theorem dX12_clauseName_0 : decode cX12_clauseName 0 = .ok (.iload_n 0, 1) := by decide +kernel
theorem dX12_clauseName_1 : decode cX12_clauseName 1 = .ok (.tableswitch 71 0 6 #[43, 47, 51, 55, 59, 63, 67], 43) := by decide +kernel
theorem dX12_clauseName_44 : decode cX12_clauseName 44 = .ok (.ldc_w 368, 3) := by decide +kernel
theorem dX12_clauseName_47 : decode cX12_clauseName 47 = .ok (.areturn, 1) := by decide +kernel
theorem dX12_clauseName_48 : decode cX12_clauseName 48 = .ok (.ldc_w 370, 3) := by decide +kernel
theorem dX12_clauseName_51 : decode cX12_clauseName 51 = .ok (.areturn, 1) := by decide +kernel
theorem dX12_clauseName_52 : decode cX12_clauseName 52 = .ok (.ldc_w 372, 3) := by decide +kernel
theorem dX12_clauseName_55 : decode cX12_clauseName 55 = .ok (.areturn, 1) := by decide +kernel
theorem dX12_clauseName_56 : decode cX12_clauseName 56 = .ok (.ldc_w 374, 3) := by decide +kernel
theorem dX12_clauseName_59 : decode cX12_clauseName 59 = .ok (.areturn, 1) := by decide +kernel
theorem dX12_clauseName_60 : decode cX12_clauseName 60 = .ok (.ldc_w 376, 3) := by decide +kernel
theorem dX12_clauseName_63 : decode cX12_clauseName 63 = .ok (.areturn, 1) := by decide +kernel
theorem dX12_clauseName_64 : decode cX12_clauseName 64 = .ok (.ldc_w 378, 3) := by decide +kernel
theorem dX12_clauseName_67 : decode cX12_clauseName 67 = .ok (.areturn, 1) := by decide +kernel
theorem dX12_clauseName_68 : decode cX12_clauseName 68 = .ok (.ldc_w 380, 3) := by decide +kernel
theorem dX12_clauseName_71 : decode cX12_clauseName 71 = .ok (.areturn, 1) := by decide +kernel
theorem dX12_clauseName_72 : decode cX12_clauseName 72 = .ok (.ldc_w 382, 3) := by decide +kernel
theorem dX12_clauseName_75 : decode cX12_clauseName 75 = .ok (.areturn, 1) := by decide +kernel
def f_M_clauseName (p0 : Int32) (σ : CS) : Option (Int32 × CS) := if p0 = 0 then some (12, σ) else if p0 = 1 then some (13, σ) else if p0 = 2 then some (14, σ) else if p0 = 3 then some (15, σ) else if p0 = 4 then some (16, σ) else if p0 = 5 then some (17, σ) else if p0 = 6 then some (18, σ) else some (19, σ)
set_option maxHeartbeats 4000000 in
set_option maxRecDepth 100000 in
theorem c_M_clauseName {l : Launch} {g : EG} {am : Nat → Nat} {Rr : va_W} {σ σ' : CS} {r : Int32} {p0 : Int32}  (h : f_M_clauseName p0 σ = some (r, σ')) : CmS l g yX12_clauseName (.code yX12_clauseName cX12_clauseName 1 (some (.object "java/lang/String"))) 0 0 am Rr σ [.int p0] r σ' := by
  refine Ct.of rfl (by decide) (Nat.le_of_ble_eq_true rfl) ?_
  intro p e s m args below meth c A C hr
  show NMS g p l e s m args below meth c A 0 0 1 am Rr (r, σ') σ [(0, .int p0)] 0 []
  unfold f_M_clauseName at h
  refine nw_iload_n C dX12_clauseName_0 rfl 0 rfl ?_
  refine nw_tsCase (tgt := 44) C 0 dX12_clauseName_1 (by decide) (by decide) rfl (by decide) h (fun _ h => ?_) (fun hc0 h => ?_)
  · refine nw_ldsw (i := 12) C (by decide) rfl rfl dX12_clauseName_44 ?_
    exact nm_sret C hr dX12_clauseName_47 (by decide) (by decide) h
  · refine nw_tsCase (tgt := 48) C 1 dX12_clauseName_1 (by decide) (by decide) rfl (by decide) h (fun _ h => ?_) (fun hc1 h => ?_)
    · refine nw_ldsw (i := 13) C (by decide) rfl rfl dX12_clauseName_48 ?_
      exact nm_sret C hr dX12_clauseName_51 (by decide) (by decide) h
    · refine nw_tsCase (tgt := 52) C 2 dX12_clauseName_1 (by decide) (by decide) rfl (by decide) h (fun _ h => ?_) (fun hc2 h => ?_)
      · refine nw_ldsw (i := 14) C (by decide) rfl rfl dX12_clauseName_52 ?_
        exact nm_sret C hr dX12_clauseName_55 (by decide) (by decide) h
      · refine nw_tsCase (tgt := 56) C 3 dX12_clauseName_1 (by decide) (by decide) rfl (by decide) h (fun _ h => ?_) (fun hc3 h => ?_)
        · refine nw_ldsw (i := 15) C (by decide) rfl rfl dX12_clauseName_56 ?_
          exact nm_sret C hr dX12_clauseName_59 (by decide) (by decide) h
        · refine nw_tsCase (tgt := 60) C 4 dX12_clauseName_1 (by decide) (by decide) rfl (by decide) h (fun _ h => ?_) (fun hc4 h => ?_)
          · refine nw_ldsw (i := 16) C (by decide) rfl rfl dX12_clauseName_60 ?_
            exact nm_sret C hr dX12_clauseName_63 (by decide) (by decide) h
          · refine nw_tsCase (tgt := 64) C 5 dX12_clauseName_1 (by decide) (by decide) rfl (by decide) h (fun _ h => ?_) (fun hc5 h => ?_)
            · refine nw_ldsw (i := 17) C (by decide) rfl rfl dX12_clauseName_64 ?_
              exact nm_sret C hr dX12_clauseName_67 (by decide) (by decide) h
            · refine nw_tsCase (tgt := 68) C 6 dX12_clauseName_1 (by decide) (by decide) rfl (by decide) h (fun _ h => ?_) (fun hc6 h => ?_)
              · refine nw_ldsw (i := 18) C (by decide) rfl rfl dX12_clauseName_68 ?_
                exact nm_sret C hr dX12_clauseName_71 (by decide) (by decide) h
              · refine nw_tsOut (tgt := 72) C dX12_clauseName_1 (by have q0 := lv_neT hc0 (a := 0) (by decide); have q1 := lv_neT hc1 (a := 1) (by decide); have q2 := lv_neT hc2 (a := 2) (by decide); have q3 := lv_neT hc3 (a := 3) (by decide); have q4 := lv_neT hc4 (a := 4) (by decide); have q5 := lv_neT hc5 (a := 5) (by decide); have q6 := lv_neT hc6 (a := 6) (by decide); omega) (by decide) ?_
                refine nw_ldsw (i := 19) C (by decide) rfl rfl dX12_clauseName_72 ?_
                exact nm_sret C hr dX12_clauseName_75 (by decide) (by decide) h
end
