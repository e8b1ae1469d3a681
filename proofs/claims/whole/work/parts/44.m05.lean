section
variable {g : EG} {p : Program} {l : Launch} {e : Env} {s : State} {m : MethodId} {args : Array Value} {below : List Frame} {meth : Method} {c : Code} {A : Nat → Prop} {ad am ta : Nat → Nat} {Rr : va_W} {φ0 : Nat}
theorem dX12_worked_0 : decode cX12_worked 0 = .ok (.iload_n 0, 1) := by decide +kernel
theorem dX12_worked_1 : decode cX12_worked 1 = .ok (.tableswitch 135 2 12 #[59, 63, 67, 71, 83, 94, 105, 109, 135, 113, 124], 59) := by decide +kernel
theorem dX12_worked_60 : decode cX12_worked 60 = .ok (.iload_n 1, 1) := by decide +kernel
theorem dX12_worked_61 : decode cX12_worked 61 = .ok (.iload_n 2, 1) := by decide +kernel
theorem dX12_worked_62 : decode cX12_worked 62 = .ok (.iadd, 1) := by decide +kernel
theorem dX12_worked_63 : decode cX12_worked 63 = .ok (.ireturn, 1) := by decide +kernel
theorem dX12_worked_64 : decode cX12_worked 64 = .ok (.iload_n 1, 1) := by decide +kernel
theorem dX12_worked_65 : decode cX12_worked 65 = .ok (.iload_n 2, 1) := by decide +kernel
theorem dX12_worked_66 : decode cX12_worked 66 = .ok (.isub, 1) := by decide +kernel
theorem dX12_worked_67 : decode cX12_worked 67 = .ok (.ireturn, 1) := by decide +kernel
theorem dX12_worked_68 : decode cX12_worked 68 = .ok (.iload_n 1, 1) := by decide +kernel
theorem dX12_worked_69 : decode cX12_worked 69 = .ok (.iload_n 2, 1) := by decide +kernel
theorem dX12_worked_70 : decode cX12_worked 70 = .ok (.imul, 1) := by decide +kernel
theorem dX12_worked_71 : decode cX12_worked 71 = .ok (.ireturn, 1) := by decide +kernel
theorem dX12_worked_72 : decode cX12_worked 72 = .ok (.iload_n 2, 1) := by decide +kernel
theorem dX12_worked_73 : decode cX12_worked 73 = .ok (.ifCond .ne 7, 3) := by decide +kernel
theorem dX12_worked_76 : decode cX12_worked 76 = .ok (.iconst 0, 1) := by decide +kernel
theorem dX12_worked_77 : decode cX12_worked 77 = .ok (.goto 6, 3) := by decide +kernel
theorem dX12_worked_80 : decode cX12_worked 80 = .ok (.iload_n 1, 1) := by decide +kernel
theorem dX12_worked_81 : decode cX12_worked 81 = .ok (.iload_n 2, 1) := by decide +kernel
theorem dX12_worked_82 : decode cX12_worked 82 = .ok (.idiv, 1) := by decide +kernel
theorem dX12_worked_83 : decode cX12_worked 83 = .ok (.ireturn, 1) := by decide +kernel
theorem dX12_worked_84 : decode cX12_worked 84 = .ok (.iload_n 1, 1) := by decide +kernel
theorem dX12_worked_85 : decode cX12_worked 85 = .ok (.iload_n 2, 1) := by decide +kernel
theorem dX12_worked_86 : decode cX12_worked 86 = .ok (.if_icmp .ge 7, 3) := by decide +kernel
theorem dX12_worked_89 : decode cX12_worked 89 = .ok (.iload_n 1, 1) := by decide +kernel
theorem dX12_worked_90 : decode cX12_worked 90 = .ok (.goto 4, 3) := by decide +kernel
theorem dX12_worked_93 : decode cX12_worked 93 = .ok (.iload_n 2, 1) := by decide +kernel
theorem dX12_worked_94 : decode cX12_worked 94 = .ok (.ireturn, 1) := by decide +kernel
theorem dX12_worked_95 : decode cX12_worked 95 = .ok (.iload_n 1, 1) := by decide +kernel
theorem dX12_worked_96 : decode cX12_worked 96 = .ok (.iload_n 2, 1) := by decide +kernel
theorem dX12_worked_97 : decode cX12_worked 97 = .ok (.if_icmp .le 7, 3) := by decide +kernel
theorem dX12_worked_100 : decode cX12_worked 100 = .ok (.iload_n 1, 1) := by decide +kernel
theorem dX12_worked_101 : decode cX12_worked 101 = .ok (.goto 4, 3) := by decide +kernel
theorem dX12_worked_104 : decode cX12_worked 104 = .ok (.iload_n 2, 1) := by decide +kernel
theorem dX12_worked_105 : decode cX12_worked 105 = .ok (.ireturn, 1) := by decide +kernel
theorem dX12_worked_106 : decode cX12_worked 106 = .ok (.iload_n 1, 1) := by decide +kernel
theorem dX12_worked_107 : decode cX12_worked 107 = .ok (.iload_n 2, 1) := by decide +kernel
theorem dX12_worked_108 : decode cX12_worked 108 = .ok (.iand, 1) := by decide +kernel
theorem dX12_worked_109 : decode cX12_worked 109 = .ok (.ireturn, 1) := by decide +kernel
theorem dX12_worked_110 : decode cX12_worked 110 = .ok (.iload_n 1, 1) := by decide +kernel
theorem dX12_worked_111 : decode cX12_worked 111 = .ok (.iload_n 2, 1) := by decide +kernel
theorem dX12_worked_112 : decode cX12_worked 112 = .ok (.ior, 1) := by decide +kernel
theorem dX12_worked_113 : decode cX12_worked 113 = .ok (.ireturn, 1) := by decide +kernel
theorem dX12_worked_114 : decode cX12_worked 114 = .ok (.iload_n 1, 1) := by decide +kernel
theorem dX12_worked_115 : decode cX12_worked 115 = .ok (.iload_n 2, 1) := by decide +kernel
theorem dX12_worked_116 : decode cX12_worked 116 = .ok (.if_icmp .ge 7, 3) := by decide +kernel
theorem dX12_worked_119 : decode cX12_worked 119 = .ok (.iconst 1, 1) := by decide +kernel
theorem dX12_worked_120 : decode cX12_worked 120 = .ok (.goto 4, 3) := by decide +kernel
theorem dX12_worked_123 : decode cX12_worked 123 = .ok (.iconst 0, 1) := by decide +kernel
theorem dX12_worked_124 : decode cX12_worked 124 = .ok (.ireturn, 1) := by decide +kernel
theorem dX12_worked_125 : decode cX12_worked 125 = .ok (.iload_n 1, 1) := by decide +kernel
theorem dX12_worked_126 : decode cX12_worked 126 = .ok (.iload_n 2, 1) := by decide +kernel
theorem dX12_worked_127 : decode cX12_worked 127 = .ok (.if_icmp .le 7, 3) := by decide +kernel
theorem dX12_worked_130 : decode cX12_worked 130 = .ok (.iconst 1, 1) := by decide +kernel
theorem dX12_worked_131 : decode cX12_worked 131 = .ok (.goto 4, 3) := by decide +kernel
theorem dX12_worked_134 : decode cX12_worked 134 = .ok (.iconst 0, 1) := by decide +kernel
theorem dX12_worked_135 : decode cX12_worked 135 = .ok (.ireturn, 1) := by decide +kernel
theorem dX12_worked_136 : decode cX12_worked 136 = .ok (.iload_n 1, 1) := by decide +kernel
theorem dX12_worked_137 : decode cX12_worked 137 = .ok (.iload_n 2, 1) := by decide +kernel
theorem dX12_worked_138 : decode cX12_worked 138 = .ok (.if_icmp .ne 7, 3) := by decide +kernel
theorem dX12_worked_141 : decode cX12_worked 141 = .ok (.iconst 1, 1) := by decide +kernel
theorem dX12_worked_142 : decode cX12_worked 142 = .ok (.goto 4, 3) := by decide +kernel
theorem dX12_worked_145 : decode cX12_worked 145 = .ok (.iconst 0, 1) := by decide +kernel
theorem dX12_worked_146 : decode cX12_worked 146 = .ok (.ireturn, 1) := by decide +kernel
def f_M_worked (p0 : Int32) (p1 : Int32) (p2 : Int32) (σ : CS) : Option (Int32 × CS) := if p0 = 2 then some ((p1 + p2), σ) else if p0 = 3 then some ((p1 - p2), σ) else if p0 = 4 then some ((p1 * p2), σ) else if p0 = 5 then if p2 = 0 then some (0, σ) else grd (¬ p2 = 0) (some ((p1 / p2), σ)) else if p0 = 6 then if p2 ≤ p1 then some (p2, σ) else some (p1, σ) else if p0 = 7 then if p1 ≤ p2 then some (p2, σ) else some (p1, σ) else if p0 = 8 then some ((p1 &&& p2), σ) else if p0 = 9 then some ((p1 ||| p2), σ) else if p0 = 10 then if p1 = p2 then some (1, σ) else some (0, σ) else if p0 = 11 then if p2 ≤ p1 then some (0, σ) else some (1, σ) else if p0 = 12 then if p1 ≤ p2 then some (0, σ) else some (1, σ) else if p1 = p2 then some (1, σ) else some (0, σ)
set_option maxHeartbeats 4000000 in
set_option maxRecDepth 100000 in
theorem c_M_worked {l : Launch} {g : EG} {am : Nat → Nat} {Rr : va_W} {σ σ' : CS} {r : Int32} {p0 : Int32} {p1 : Int32} {p2 : Int32}  (h : f_M_worked p0 p1 p2 σ = some (r, σ')) : CmI l g yX12_worked (.code yX12_worked cX12_worked 3 (some .int)) 0 0 am Rr σ [.int p0, .int p1, .int p2] r σ' := by
  refine Ct.of rfl (by decide) (Nat.le_of_ble_eq_true rfl) ?_
  intro p e s m args below meth c A C hr
  show NMI g p l e s m args below meth c A 0 0 3 am Rr (r, σ') σ [(0, .int p0), (1, .int p1), (2, .int p2)] 0 []
  unfold f_M_worked at h
  refine nw_iload_n C dX12_worked_0 rfl 0 rfl ?_
  refine nw_tsCase (tgt := 60) C 2 dX12_worked_1 (by decide) (by decide) rfl (by decide) h (fun _ h => ?_) (fun hc2 h => ?_)
  · refine nw_iload_n C dX12_worked_60 rfl 1 rfl ?_
    refine nw_iload_n C dX12_worked_61 rfl 2 rfl ?_
    refine nw_iadd C dX12_worked_62 ?_
    exact nm_iret C hr dX12_worked_63 h
  · refine nw_tsCase (tgt := 64) C 3 dX12_worked_1 (by decide) (by decide) rfl (by decide) h (fun _ h => ?_) (fun hc3 h => ?_)
    · refine nw_iload_n C dX12_worked_64 rfl 1 rfl ?_
      refine nw_iload_n C dX12_worked_65 rfl 2 rfl ?_
      refine nw_isub C dX12_worked_66 ?_
      exact nm_iret C hr dX12_worked_67 h
    · refine nw_tsCase (tgt := 68) C 4 dX12_worked_1 (by decide) (by decide) rfl (by decide) h (fun _ h => ?_) (fun hc4 h => ?_)
      · refine nw_iload_n C dX12_worked_68 rfl 1 rfl ?_
        refine nw_iload_n C dX12_worked_69 rfl 2 rfl ?_
        refine nw_imul C dX12_worked_70 ?_
        exact nm_iret C hr dX12_worked_71 h
      · refine nw_tsCase (tgt := 72) C 5 dX12_worked_1 (by decide) (by decide) rfl (by decide) h (fun _ h => ?_) (fun hc5 h => ?_)
        · refine nw_iload_n C dX12_worked_72 rfl 2 rfl ?_
          refine nw_if_ne (tgt := 80) C dX12_worked_73 (by decide) h (fun _ h => ?_) (fun _ h => ?_)
          · refine nw_iconst (v := 0) C dX12_worked_76 (by decide) ?_
            refine nw_goto (tgt := 83) C dX12_worked_77 (by decide) ?_
            exact nm_iret C hr dX12_worked_83 h
          · refine nw_iload_n C dX12_worked_80 rfl 1 rfl ?_
            refine nw_iload_n C dX12_worked_81 rfl 2 rfl ?_
            refine nw_idiv C dX12_worked_82 h (fun h => ?_)
            exact nm_iret C hr dX12_worked_83 h
        · refine nw_tsCase (tgt := 84) C 6 dX12_worked_1 (by decide) (by decide) rfl (by decide) h (fun _ h => ?_) (fun hc6 h => ?_)
          · refine nw_iload_n C dX12_worked_84 rfl 1 rfl ?_
            refine nw_iload_n C dX12_worked_85 rfl 2 rfl ?_
            refine nw_icmp_ge (tgt := 93) C dX12_worked_86 (by decide) h (fun _ h => ?_) (fun _ h => ?_)
            · refine nw_iload_n C dX12_worked_93 rfl 2 rfl ?_
              exact nm_iret C hr dX12_worked_94 h
            · refine nw_iload_n C dX12_worked_89 rfl 1 rfl ?_
              refine nw_goto (tgt := 94) C dX12_worked_90 (by decide) ?_
              exact nm_iret C hr dX12_worked_94 h
          · refine nw_tsCase (tgt := 95) C 7 dX12_worked_1 (by decide) (by decide) rfl (by decide) h (fun _ h => ?_) (fun hc7 h => ?_)
            · refine nw_iload_n C dX12_worked_95 rfl 1 rfl ?_
              refine nw_iload_n C dX12_worked_96 rfl 2 rfl ?_
              refine nw_icmp_le (tgt := 104) C dX12_worked_97 (by decide) h (fun _ h => ?_) (fun _ h => ?_)
              · refine nw_iload_n C dX12_worked_104 rfl 2 rfl ?_
                exact nm_iret C hr dX12_worked_105 h
              · refine nw_iload_n C dX12_worked_100 rfl 1 rfl ?_
                refine nw_goto (tgt := 105) C dX12_worked_101 (by decide) ?_
                exact nm_iret C hr dX12_worked_105 h
            · refine nw_tsCase (tgt := 106) C 8 dX12_worked_1 (by decide) (by decide) rfl (by decide) h (fun _ h => ?_) (fun hc8 h => ?_)
              · refine nw_iload_n C dX12_worked_106 rfl 1 rfl ?_
                refine nw_iload_n C dX12_worked_107 rfl 2 rfl ?_
                refine nw_iand C dX12_worked_108 ?_
                exact nm_iret C hr dX12_worked_109 h
              · refine nw_tsCase (tgt := 110) C 9 dX12_worked_1 (by decide) (by decide) rfl (by decide) h (fun _ h => ?_) (fun hc9 h => ?_)
                · refine nw_iload_n C dX12_worked_110 rfl 1 rfl ?_
                  refine nw_iload_n C dX12_worked_111 rfl 2 rfl ?_
                  refine nw_ior C dX12_worked_112 ?_
                  exact nm_iret C hr dX12_worked_113 h
                · refine nw_tsCase (tgt := 136) C 10 dX12_worked_1 (by decide) (by decide) rfl (by decide) h (fun _ h => ?_) (fun hc10 h => ?_)
                  · refine nw_iload_n C dX12_worked_136 rfl 1 rfl ?_
                    refine nw_iload_n C dX12_worked_137 rfl 2 rfl ?_
                    refine nw_icmp_ne (tgt := 145) C dX12_worked_138 (by decide) h (fun _ h => ?_) (fun _ h => ?_)
                    · refine nw_iconst (v := 1) C dX12_worked_141 (by decide) ?_
                      refine nw_goto (tgt := 146) C dX12_worked_142 (by decide) ?_
                      exact nm_iret C hr dX12_worked_146 h
                    · refine nw_iconst (v := 0) C dX12_worked_145 (by decide) ?_
                      exact nm_iret C hr dX12_worked_146 h
                  · refine nw_tsCase (tgt := 114) C 11 dX12_worked_1 (by decide) (by decide) rfl (by decide) h (fun _ h => ?_) (fun hc11 h => ?_)
                    · refine nw_iload_n C dX12_worked_114 rfl 1 rfl ?_
                      refine nw_iload_n C dX12_worked_115 rfl 2 rfl ?_
                      refine nw_icmp_ge (tgt := 123) C dX12_worked_116 (by decide) h (fun _ h => ?_) (fun _ h => ?_)
                      · refine nw_iconst (v := 0) C dX12_worked_123 (by decide) ?_
                        exact nm_iret C hr dX12_worked_124 h
                      · refine nw_iconst (v := 1) C dX12_worked_119 (by decide) ?_
                        refine nw_goto (tgt := 124) C dX12_worked_120 (by decide) ?_
                        exact nm_iret C hr dX12_worked_124 h
                    · refine nw_tsCase (tgt := 125) C 12 dX12_worked_1 (by decide) (by decide) rfl (by decide) h (fun _ h => ?_) (fun hc12 h => ?_)
                      · refine nw_iload_n C dX12_worked_125 rfl 1 rfl ?_
                        refine nw_iload_n C dX12_worked_126 rfl 2 rfl ?_
                        refine nw_icmp_le (tgt := 134) C dX12_worked_127 (by decide) h (fun _ h => ?_) (fun _ h => ?_)
                        · refine nw_iconst (v := 0) C dX12_worked_134 (by decide) ?_
                          exact nm_iret C hr dX12_worked_135 h
                        · refine nw_iconst (v := 1) C dX12_worked_130 (by decide) ?_
                          refine nw_goto (tgt := 135) C dX12_worked_131 (by decide) ?_
                          exact nm_iret C hr dX12_worked_135 h
                      · refine nw_tsOut (tgt := 136) C dX12_worked_1 (by have q2 := lv_neT hc2 (a := 2) (by decide); have q3 := lv_neT hc3 (a := 3) (by decide); have q4 := lv_neT hc4 (a := 4) (by decide); have q5 := lv_neT hc5 (a := 5) (by decide); have q6 := lv_neT hc6 (a := 6) (by decide); have q7 := lv_neT hc7 (a := 7) (by decide); have q8 := lv_neT hc8 (a := 8) (by decide); have q9 := lv_neT hc9 (a := 9) (by decide); have q10 := lv_neT hc10 (a := 10) (by decide); have q11 := lv_neT hc11 (a := 11) (by decide); have q12 := lv_neT hc12 (a := 12) (by decide); omega) (by decide) ?_
                        refine nw_iload_n C dX12_worked_136 rfl 1 rfl ?_
                        refine nw_iload_n C dX12_worked_137 rfl 2 rfl ?_
                        refine nw_icmp_ne (tgt := 145) C dX12_worked_138 (by decide) h (fun _ h => ?_) (fun _ h => ?_)
                        · refine nw_iconst (v := 1) C dX12_worked_141 (by decide) ?_
                          refine nw_goto (tgt := 146) C dX12_worked_142 (by decide) ?_
                          exact nm_iret C hr dX12_worked_146 h
                        · refine nw_iconst (v := 0) C dX12_worked_145 (by decide) ?_
                          exact nm_iret C hr dX12_worked_146 h
theorem dX12_value_0 : decode cX12_value 0 = .ok (.iconst 0, 1) := by decide +kernel
theorem dX12_value_1 : decode cX12_value 1 = .ok (.istore 5, 2) := by decide +kernel
theorem dX12_value_3 : decode cX12_value 3 = .ok (.sipush 450, 3) := by decide +kernel
theorem dX12_value_6 : decode cX12_value 6 = .ok (.iload_n 1, 1) := by decide +kernel
theorem dX12_value_7 : decode cX12_value 7 = .ok (.imul, 1) := by decide +kernel
theorem dX12_value_8 : decode cX12_value 8 = .ok (.aload_n 0, 1) := by decide +kernel
theorem dX12_value_9 : decode cX12_value 9 = .ok (.getfield 60, 3) := by decide +kernel
theorem dX12_value_12 : decode cX12_value 12 = .ok (.iload_n 2, 1) := by decide +kernel
theorem dX12_value_13 : decode cX12_value 13 = .ok (.iaload, 1) := by decide +kernel
theorem dX12_value_14 : decode cX12_value 14 = .ok (.iadd, 1) := by decide +kernel
theorem dX12_value_15 : decode cX12_value 15 = .ok (.istore 6, 2) := by decide +kernel
theorem dX12_value_17 : decode cX12_value 17 = .ok (.aload_n 0, 1) := by decide +kernel
theorem dX12_value_18 : decode cX12_value 18 = .ok (.getfield 69, 3) := by decide +kernel
theorem dX12_value_21 : decode cX12_value 21 = .ok (.iload 6, 2) := by decide +kernel
theorem dX12_value_23 : decode cX12_value 23 = .ok (.iaload, 1) := by decide +kernel
theorem dX12_value_24 : decode cX12_value 24 = .ok (.bipush 14, 2) := by decide +kernel
theorem dX12_value_26 : decode cX12_value 26 = .ok (.if_icmp .eq 134, 3) := by decide +kernel
theorem dX12_value_29 : decode cX12_value 29 = .ok (.aload_n 0, 1) := by decide +kernel
theorem dX12_value_30 : decode cX12_value 30 = .ok (.getfield 69, 3) := by decide +kernel
theorem dX12_value_33 : decode cX12_value 33 = .ok (.iload 6, 2) := by decide +kernel
theorem dX12_value_35 : decode cX12_value 35 = .ok (.iaload, 1) := by decide +kernel
theorem dX12_value_36 : decode cX12_value 36 = .ok (.istore 7, 2) := by decide +kernel
theorem dX12_value_38 : decode cX12_value 38 = .ok (.iload 7, 2) := by decide +kernel
theorem dX12_value_40 : decode cX12_value 40 = .ok (.ifCond .eq 9, 3) := by decide +kernel
theorem dX12_value_43 : decode cX12_value 43 = .ok (.iload 7, 2) := by decide +kernel
theorem dX12_value_45 : decode cX12_value 45 = .ok (.iconst 1, 1) := by decide +kernel
theorem dX12_value_46 : decode cX12_value 46 = .ok (.if_icmp .ne 45, 3) := by decide +kernel
theorem dX12_value_49 : decode cX12_value 49 = .ok (.aload_n 0, 1) := by decide +kernel
theorem dX12_value_50 : decode cX12_value 50 = .ok (.getfield 118, 3) := by decide +kernel
theorem dX12_value_53 : decode cX12_value 53 = .ok (.iload 5, 2) := by decide +kernel
theorem dX12_value_55 : decode cX12_value 55 = .ok (.iload 7, 2) := by decide +kernel
theorem dX12_value_57 : decode cX12_value 57 = .ok (.ifCond .ne 13, 3) := by decide +kernel
theorem dX12_value_60 : decode cX12_value 60 = .ok (.aload_n 0, 1) := by decide +kernel
theorem dX12_value_61 : decode cX12_value 61 = .ok (.getfield 72, 3) := by decide +kernel
theorem dX12_value_64 : decode cX12_value 64 = .ok (.iload 6, 2) := by decide +kernel
theorem dX12_value_66 : decode cX12_value 66 = .ok (.iaload, 1) := by decide +kernel
theorem dX12_value_67 : decode cX12_value 67 = .ok (.goto 17, 3) := by decide +kernel
theorem dX12_value_70 : decode cX12_value 70 = .ok (.aload_n 0, 1) := by decide +kernel
theorem dX12_value_71 : decode cX12_value 71 = .ok (.aload_n 0, 1) := by decide +kernel
theorem dX12_value_72 : decode cX12_value 72 = .ok (.getfield 72, 3) := by decide +kernel
theorem dX12_value_75 : decode cX12_value 75 = .ok (.iload 6, 2) := by decide +kernel
theorem dX12_value_77 : decode cX12_value 77 = .ok (.iaload, 1) := by decide +kernel
theorem dX12_value_78 : decode cX12_value 78 = .ok (.iload_n 3, 1) := by decide +kernel
theorem dX12_value_79 : decode cX12_value 79 = .ok (.iload 4, 2) := by decide +kernel
theorem dX12_value_81 : decode cX12_value 81 = .ok (.invokevirtual 525, 3) := by decide +kernel
theorem dX12_value_84 : decode cX12_value 84 = .ok (.iastore, 1) := by decide +kernel
theorem dX12_value_85 : decode cX12_value 85 = .ok (.iinc 5 1, 3) := by decide +kernel
theorem dX12_value_88 : decode cX12_value 88 = .ok (.goto 66, 3) := by decide +kernel
theorem dX12_value_91 : decode cX12_value 91 = .ok (.iload 7, 2) := by decide +kernel
theorem dX12_value_93 : decode cX12_value 93 = .ok (.bipush 10, 2) := by decide +kernel
theorem dX12_value_95 : decode cX12_value 95 = .ok (.if_icmp .ne 26, 3) := by decide +kernel
theorem dX12_value_98 : decode cX12_value 98 = .ok (.aload_n 0, 1) := by decide +kernel
theorem dX12_value_99 : decode cX12_value 99 = .ok (.getfield 118, 3) := by decide +kernel
theorem dX12_value_102 : decode cX12_value 102 = .ok (.iload 5, 2) := by decide +kernel
theorem dX12_value_104 : decode cX12_value 104 = .ok (.iconst 1, 1) := by decide +kernel
theorem dX12_value_105 : decode cX12_value 105 = .ok (.isub, 1) := by decide +kernel
theorem dX12_value_106 : decode cX12_value 106 = .ok (.iconst 1, 1) := by decide +kernel
theorem dX12_value_107 : decode cX12_value 107 = .ok (.aload_n 0, 1) := by decide +kernel
theorem dX12_value_108 : decode cX12_value 108 = .ok (.getfield 118, 3) := by decide +kernel
theorem dX12_value_111 : decode cX12_value 111 = .ok (.iload 5, 2) := by decide +kernel
theorem dX12_value_113 : decode cX12_value 113 = .ok (.iconst 1, 1) := by decide +kernel
theorem dX12_value_114 : decode cX12_value 114 = .ok (.isub, 1) := by decide +kernel
theorem dX12_value_115 : decode cX12_value 115 = .ok (.iaload, 1) := by decide +kernel
theorem dX12_value_116 : decode cX12_value 116 = .ok (.isub, 1) := by decide +kernel
theorem dX12_value_117 : decode cX12_value 117 = .ok (.iastore, 1) := by decide +kernel
theorem dX12_value_118 : decode cX12_value 118 = .ok (.goto 36, 3) := by decide +kernel
theorem dX12_value_121 : decode cX12_value 121 = .ok (.iinc 5 (-1), 3) := by decide +kernel
theorem dX12_value_124 : decode cX12_value 124 = .ok (.aload_n 0, 1) := by decide +kernel
theorem dX12_value_125 : decode cX12_value 125 = .ok (.getfield 118, 3) := by decide +kernel
theorem dX12_value_128 : decode cX12_value 128 = .ok (.iload 5, 2) := by decide +kernel
theorem dX12_value_130 : decode cX12_value 130 = .ok (.iconst 1, 1) := by decide +kernel
theorem dX12_value_131 : decode cX12_value 131 = .ok (.isub, 1) := by decide +kernel
theorem dX12_value_132 : decode cX12_value 132 = .ok (.iload 7, 2) := by decide +kernel
theorem dX12_value_134 : decode cX12_value 134 = .ok (.aload_n 0, 1) := by decide +kernel
theorem dX12_value_135 : decode cX12_value 135 = .ok (.getfield 118, 3) := by decide +kernel
theorem dX12_value_138 : decode cX12_value 138 = .ok (.iload 5, 2) := by decide +kernel
theorem dX12_value_140 : decode cX12_value 140 = .ok (.iconst 1, 1) := by decide +kernel
theorem dX12_value_141 : decode cX12_value 141 = .ok (.isub, 1) := by decide +kernel
theorem dX12_value_142 : decode cX12_value 142 = .ok (.iaload, 1) := by decide +kernel
theorem dX12_value_143 : decode cX12_value 143 = .ok (.aload_n 0, 1) := by decide +kernel
theorem dX12_value_144 : decode cX12_value 144 = .ok (.getfield 118, 3) := by decide +kernel
theorem dX12_value_147 : decode cX12_value 147 = .ok (.iload 5, 2) := by decide +kernel
theorem dX12_value_149 : decode cX12_value 149 = .ok (.iaload, 1) := by decide +kernel
theorem dX12_value_150 : decode cX12_value 150 = .ok (.invokestatic 528, 3) := by decide +kernel
theorem dX12_value_153 : decode cX12_value 153 = .ok (.iastore, 1) := by decide +kernel
theorem dX12_value_154 : decode cX12_value 154 = .ok (.iinc 6 1, 3) := by decide +kernel
theorem dX12_value_157 : decode cX12_value 157 = .ok (.goto (-140), 3) := by decide +kernel
theorem dX12_value_160 : decode cX12_value 160 = .ok (.aload_n 0, 1) := by decide +kernel
theorem dX12_value_161 : decode cX12_value 161 = .ok (.getfield 118, 3) := by decide +kernel
theorem dX12_value_164 : decode cX12_value 164 = .ok (.iconst 0, 1) := by decide +kernel
theorem dX12_value_165 : decode cX12_value 165 = .ok (.iaload, 1) := by decide +kernel
theorem dX12_value_166 : decode cX12_value 166 = .ok (.ireturn, 1) := by decide +kernel
def B_M_value_84 (k17 : Int32 → Int32 → CS → Option (Int32 × CS)) (x3 : Int32) (x4 : Int32) (x5 : Int32) (x6 : Int32) (z1 : Int32) (z2 : Int32) (σ : CS) : Option (Int32 × CS) := gix z1 450 (k17 (x5 + 1) (x6 + 1) (wr σ 55 z1 z2))
set_option maxHeartbeats 4000000 in
set_option maxRecDepth 100000 in
theorem w_M_value_84 (C : Cx g p s m args meth c A 8 cX12_value yX12_value.cls) (hr : meth.sig.returnType = (some .int))  {res : Int32 × CS}  (x3 : Int32) (x4 : Int32) (x5 : Int32) (x6 : Int32) (z1 : Int32) (z2 : Int32) {k17 : Int32 → Int32 → CS → Option (Int32 × CS)} (hk17 : ∀ (x5 : Int32) (x6 : Int32) (σ : CS), k17 x5 x6 σ = some res → NMI g p l e s m args below meth c A 1 23 8 am Rr res σ [(0, .ref (am 112)), (3, .int x3), (4, .int x4), (5, .int x5), (6, .int x6)] 17 []) (σ : CS) (h : B_M_value_84 k17 x3 x4 x5 x6 z1 z2 σ = some res) : NMI g p l e s m args below meth c A 1 23 8 am Rr res σ [(0, .ref (am 112)), (3, .int x3), (4, .int x4), (5, .int x5), (6, .int x6)] 84 [.int z2, .int z1, .ref (am 55)] := by
  unfold B_M_value_84 at h
  refine nw_iast C 35 ml_55 dX12_value_84 h ms_55 (fun h => ?_)
  refine nw_iinc (lv' := [(5, .int (x5 + 1)), (0, .ref (am 112)), (3, .int x3), (4, .int x4), (6, .int x6)]) C (x5 + 1) dX12_value_85 3 rfl rfl (by decide) rfl ?_
  refine nw_goto (tgt := 154) C dX12_value_88 (by decide) ?_
  refine nw_iinc (lv' := [(6, .int (x6 + 1)), (5, .int (x5 + 1)), (0, .ref (am 112)), (3, .int x3), (4, .int x4)]) C (x6 + 1) dX12_value_154 4 rfl rfl (by decide) rfl ?_
  refine nw_goto (tgt := 17) C dX12_value_157 (by decide) ?_
  exact nw_lv (lv' := [(0, .ref (am 112)), (3, .int x3), (4, .int x4), (5, .int (x5 + 1)), (6, .int (x6 + 1))]) [2, 3, 4, 1, 0] rfl (hk17 (x5 + 1) (x6 + 1) _ h)
def B_M_value_49 (k17 : Int32 → Int32 → CS → Option (Int32 × CS)) (x3 : Int32) (x4 : Int32) (x5 : Int32) (x6 : Int32) (x7 : Int32) (σ : CS) : Option (Int32 × CS) := if x7 = 0 then gix x6 4500 (B_M_value_84 k17 x3 x4 x5 x6 x5 (rd σ 36 x6) σ) else gix x6 4500 (bnd (f_M_valueOf (rd σ 36 x6) x3 x4 σ) (fun r81 σ81 => B_M_value_84 k17 x3 x4 x5 x6 x5 r81 σ81))
set_option maxHeartbeats 4000000 in
set_option maxRecDepth 100000 in
theorem w_M_value_49 (C : Cx g p s m args meth c A 8 cX12_value yX12_value.cls) (hr : meth.sig.returnType = (some .int))  {res : Int32 × CS}  (x3 : Int32) (x4 : Int32) (x5 : Int32) (x6 : Int32) (x7 : Int32) {k17 : Int32 → Int32 → CS → Option (Int32 × CS)} (hk17 : ∀ (x5 : Int32) (x6 : Int32) (σ : CS), k17 x5 x6 σ = some res → NMI g p l e s m args below meth c A 1 23 8 am Rr res σ [(0, .ref (am 112)), (3, .int x3), (4, .int x4), (5, .int x5), (6, .int x6)] 17 []) (σ : CS) (h : B_M_value_49 k17 x3 x4 x5 x6 x7 σ = some res) : NMI g p l e s m args below meth c A 1 23 8 am Rr res σ [(0, .ref (am 112)), (3, .int x3), (4, .int x4), (5, .int x5), (6, .int x6), (7, .int x7)] 49 [] := by
  unfold B_M_value_49 at h
  refine nw_aload_n C dX12_value_49 rfl 0 rfl ?_
  refine nw_get (v := .ref (am 55)) C in_X12 0 ml_O rfl 55 (by decide) tw_1628 rfl mf_55 dX12_value_50 ?_
  refine nw_iload C dX12_value_53 3 rfl ?_
  refine nw_iload C dX12_value_55 5 rfl ?_
  refine nw_if_ne (tgt := 70) C dX12_value_57 (by decide) h (fun _ h => ?_) (fun _ h => ?_)
  · refine nw_aload_n C dX12_value_60 rfl 0 rfl ?_
    refine nw_get (v := .ref (am 36)) C in_X12 0 ml_O rfl 36 (by decide) tw_1609 rfl mf_36 dX12_value_61 ?_
    refine nw_iload C dX12_value_64 4 rfl ?_
    refine nw_iald C 20 ml_36 dX12_value_66 h (fun h => ?_)
    refine nw_goto (tgt := 84) C dX12_value_67 (by decide) ?_
    exact nw_lv (lv' := [(0, .ref (am 112)), (3, .int x3), (4, .int x4), (5, .int x5), (6, .int x6)]) [0, 1, 2, 3, 4] rfl (w_M_value_84 C hr x3 x4 x5 x6 x5 (rd σ 36 x6) hk17 _ h)
  · refine nw_aload_n C dX12_value_70 rfl 0 rfl ?_
    refine nw_aload_n C dX12_value_71 rfl 0 rfl ?_
    refine nw_get (v := .ref (am 36)) C in_X12 0 ml_O rfl 36 (by decide) tw_1609 rfl mf_36 dX12_value_72 ?_
    refine nw_iload C dX12_value_75 4 rfl ?_
    refine nw_iald C 20 ml_36 dX12_value_77 h (fun h => ?_)
    refine nw_iload_n C dX12_value_78 rfl 1 rfl ?_
    refine nw_iload C dX12_value_79 2 rfl ?_
    refine nm_callVI (q0 := 0) (As := [.int (rd σ 36 x6), .int x3, .int x4]) (rest := [.int x5, .ref (am 55)]) C h (fun _ _ e => c_M_valueOf e) tw_2224 kv_X12_valueOf ml_O rfl ⟨Nat.le_of_ble_eq_true rfl, Nat.le_of_ble_eq_true rfl⟩ rfl dX12_value_81 rfl (Nat.le_of_ble_eq_true rfl) (fun r81 σ81 h => ?_)
    exact nw_lv (lv' := [(0, .ref (am 112)), (3, .int x3), (4, .int x4), (5, .int x5), (6, .int x6)]) [0, 1, 2, 3, 4] rfl (w_M_value_84 C hr x3 x4 x5 x6 x5 r81 hk17 _ h)
def L_M_value_17 (k160 : CS → Option (Int32 × CS)) (x3 : Int32) (x4 : Int32) : Nat → Int32 → Int32 → CS → Option (Int32 × CS)
  | 0, _, _, _ => none
  | n + 1, x5, x6, σ => gix x6 4500 (if (rd σ 35 x6) = 14 then k160 σ else gix x6 4500 (if (rd σ 35 x6) = 0 then B_M_value_49 (L_M_value_17 k160 x3 x4 n) x3 x4 x5 x6 (rd σ 35 x6) σ else if (rd σ 35 x6) = 1 then B_M_value_49 (L_M_value_17 k160 x3 x4 n) x3 x4 x5 x6 (rd σ 35 x6) σ else if (rd σ 35 x6) = 10 then gix (x5 - 1) 450 (gix (x5 - 1) 450 ((L_M_value_17 k160 x3 x4 n) x5 (x6 + 1) (wr σ 55 (x5 - 1) (1 - (rd σ 55 (x5 - 1)))))) else gix ((x5 + (-1)) - 1) 450 (gix (x5 + (-1)) 450 (bnd (f_M_worked (rd σ 35 x6) (rd σ 55 ((x5 + (-1)) - 1)) (rd σ 55 (x5 + (-1))) σ) (fun r150 σ150 => gix ((x5 + (-1)) - 1) 450 ((L_M_value_17 k160 x3 x4 n) (x5 + (-1)) (x6 + 1) (wr σ150 55 ((x5 + (-1)) - 1) r150)))))))
set_option maxHeartbeats 4000000 in
set_option maxRecDepth 100000 in
theorem w_M_value_17 (C : Cx g p s m args meth c A 8 cX12_value yX12_value.cls) (hr : meth.sig.returnType = (some .int))  {res : Int32 × CS}  (x3 : Int32) (x4 : Int32) {k160 : CS → Option (Int32 × CS)} (hk160 : ∀  (σ : CS), k160  σ = some res → NMI g p l e s m args below meth c A 1 23 8 am Rr res σ [(0, .ref (am 112))] 160 []) : ∀ (n : Nat) (x5 : Int32) (x6 : Int32) (σ : CS), L_M_value_17 k160 x3 x4 n x5 x6 σ = some res → NMI g p l e s m args below meth c A 1 23 8 am Rr res σ [(0, .ref (am 112)), (3, .int x3), (4, .int x4), (5, .int x5), (6, .int x6)] 17 [] := by
  intro n
  induction n with
  | zero =>
    intro x5 x6 σ h
    exact absurd (show (none : Option (Int32 × CS)) = some res from h) (by intro h9; cases h9)
  | succ n ih =>
    intro x5 x6 σ h
    rw [L_M_value_17] at h
    refine nw_aload_n C dX12_value_17 rfl 0 rfl ?_
    refine nw_get (v := .ref (am 35)) C in_X12 0 ml_O rfl 35 (by decide) tw_1608 rfl mf_35 dX12_value_18 ?_
    refine nw_iload C dX12_value_21 4 rfl ?_
    refine nw_iald C 19 ml_35 dX12_value_23 h (fun h => ?_)
    refine nw_bipush (v := 14) C dX12_value_24 (by decide) ?_
    refine nw_icmp_eq (tgt := 160) C dX12_value_26 (by decide) h (fun _ h => ?_) (fun _ h => ?_)
    · exact nw_lv (lv' := [(0, .ref (am 112))]) [0] rfl (hk160  _ h)
    · refine nw_aload_n C dX12_value_29 rfl 0 rfl ?_
      refine nw_get (v := .ref (am 35)) C in_X12 0 ml_O rfl 35 (by decide) tw_1608 rfl mf_35 dX12_value_30 ?_
      refine nw_iload C dX12_value_33 4 rfl ?_
      refine nw_iald C 19 ml_35 dX12_value_35 h (fun h => ?_)
      refine nw_istore (lv' := [(7, .int (rd σ 35 x6)), (0, .ref (am 112)), (3, .int x3), (4, .int x4), (5, .int x5), (6, .int x6)]) C dX12_value_36 (by decide) rfl ?_
      refine nw_iload C dX12_value_38 0 rfl ?_
      refine nw_if_eq (tgt := 49) C dX12_value_40 (by decide) h (fun _ h => ?_) (fun _ h => ?_)
      · exact nw_lv (lv' := [(0, .ref (am 112)), (3, .int x3), (4, .int x4), (5, .int x5), (6, .int x6), (7, .int (rd σ 35 x6))]) [1, 2, 3, 4, 5, 0] rfl (w_M_value_49 C hr x3 x4 x5 x6 (rd σ 35 x6) ih _ h)
      · refine nw_iload C dX12_value_43 0 rfl ?_
        refine nw_iconst (v := 1) C dX12_value_45 (by decide) ?_
        refine nw_icmp_ne (tgt := 91) C dX12_value_46 (by decide) h (fun _ h => ?_) (fun _ h => ?_)
        · exact nw_lv (lv' := [(0, .ref (am 112)), (3, .int x3), (4, .int x4), (5, .int x5), (6, .int x6), (7, .int (rd σ 35 x6))]) [1, 2, 3, 4, 5, 0] rfl (w_M_value_49 C hr x3 x4 x5 x6 (rd σ 35 x6) ih _ h)
        · refine nw_iload C dX12_value_91 0 rfl ?_
          refine nw_bipush (v := 10) C dX12_value_93 (by decide) ?_
          refine nw_icmp_ne (tgt := 121) C dX12_value_95 (by decide) h (fun _ h => ?_) (fun _ h => ?_)
          · refine nw_aload_n C dX12_value_98 rfl 1 rfl ?_
            refine nw_get (v := .ref (am 55)) C in_X12 0 ml_O rfl 55 (by decide) tw_1628 rfl mf_55 dX12_value_99 ?_
            refine nw_iload C dX12_value_102 4 rfl ?_
            refine nw_iconst (v := 1) C dX12_value_104 (by decide) ?_
            refine nw_isub C dX12_value_105 ?_
            refine nw_iconst (v := 1) C dX12_value_106 (by decide) ?_
            refine nw_aload_n C dX12_value_107 rfl 1 rfl ?_
            refine nw_get (v := .ref (am 55)) C in_X12 0 ml_O rfl 55 (by decide) tw_1628 rfl mf_55 dX12_value_108 ?_
            refine nw_iload C dX12_value_111 4 rfl ?_
            refine nw_iconst (v := 1) C dX12_value_113 (by decide) ?_
            refine nw_isub C dX12_value_114 ?_
            refine nw_iald C 35 ml_55 dX12_value_115 h (fun h => ?_)
            refine nw_isub C dX12_value_116 ?_
            refine nw_iast C 35 ml_55 dX12_value_117 h ms_55 (fun h => ?_)
            refine nw_goto (tgt := 154) C dX12_value_118 (by decide) ?_
            refine nw_iinc (lv' := [(6, .int (x6 + 1)), (7, .int (rd σ 35 x6)), (0, .ref (am 112)), (3, .int x3), (4, .int x4), (5, .int x5)]) C (x6 + 1) dX12_value_154 5 rfl rfl (by decide) rfl ?_
            refine nw_goto (tgt := 17) C dX12_value_157 (by decide) ?_
            exact nw_lv (lv' := [(0, .ref (am 112)), (3, .int x3), (4, .int x4), (5, .int x5), (6, .int (x6 + 1))]) [2, 3, 4, 5, 0] rfl (ih x5 (x6 + 1) _ h)
          · refine nw_iinc (lv' := [(5, .int (x5 + (-1))), (7, .int (rd σ 35 x6)), (0, .ref (am 112)), (3, .int x3), (4, .int x4), (6, .int x6)]) C (x5 + (-1)) dX12_value_121 4 rfl rfl (by decide) rfl ?_
            refine nw_aload_n C dX12_value_124 rfl 2 rfl ?_
            refine nw_get (v := .ref (am 55)) C in_X12 0 ml_O rfl 55 (by decide) tw_1628 rfl mf_55 dX12_value_125 ?_
            refine nw_iload C dX12_value_128 0 rfl ?_
            refine nw_iconst (v := 1) C dX12_value_130 (by decide) ?_
            refine nw_isub C dX12_value_131 ?_
            refine nw_iload C dX12_value_132 1 rfl ?_
            refine nw_aload_n C dX12_value_134 rfl 2 rfl ?_
            refine nw_get (v := .ref (am 55)) C in_X12 0 ml_O rfl 55 (by decide) tw_1628 rfl mf_55 dX12_value_135 ?_
            refine nw_iload C dX12_value_138 0 rfl ?_
            refine nw_iconst (v := 1) C dX12_value_140 (by decide) ?_
            refine nw_isub C dX12_value_141 ?_
            refine nw_iald C 35 ml_55 dX12_value_142 h (fun h => ?_)
            refine nw_aload_n C dX12_value_143 rfl 2 rfl ?_
            refine nw_get (v := .ref (am 55)) C in_X12 0 ml_O rfl 55 (by decide) tw_1628 rfl mf_55 dX12_value_144 ?_
            refine nw_iload C dX12_value_147 0 rfl ?_
            refine nw_iald C 35 ml_55 dX12_value_149 h (fun h => ?_)
            refine nm_callSI  (As := [.int (rd σ 35 x6), .int (rd σ 55 ((x5 + (-1)) - 1)), .int (rd σ 55 (x5 + (-1)))]) (rest := [.int ((x5 + (-1)) - 1), .ref (am 55)]) C h (fun _ _ e => c_M_worked e) tw_2228 ks_X12_worked ⟨Nat.le_of_ble_eq_true rfl, Nat.le_of_ble_eq_true rfl⟩ rfl dX12_value_150 rfl (Nat.le_of_ble_eq_true rfl) (fun r150 σ150 h => ?_)
            refine nw_iast C 35 ml_55 dX12_value_153 h ms_55 (fun h => ?_)
            refine nw_iinc (lv' := [(6, .int (x6 + 1)), (5, .int (x5 + (-1))), (7, .int (rd σ 35 x6)), (0, .ref (am 112)), (3, .int x3), (4, .int x4)]) C (x6 + 1) dX12_value_154 5 rfl rfl (by decide) rfl ?_
            refine nw_goto (tgt := 17) C dX12_value_157 (by decide) ?_
            exact nw_lv (lv' := [(0, .ref (am 112)), (3, .int x3), (4, .int x4), (5, .int (x5 + (-1))), (6, .int (x6 + 1))]) [3, 4, 5, 1, 0] rfl (ih (x5 + (-1)) (x6 + 1) _ h)
def B_M_value_160    (σ : CS) : Option (Int32 × CS) := gix 0 450 (some ((rd σ 55 0), σ))
set_option maxHeartbeats 4000000 in
set_option maxRecDepth 100000 in
theorem w_M_value_160 (C : Cx g p s m args meth c A 8 cX12_value yX12_value.cls) (hr : meth.sig.returnType = (some .int))  {res : Int32 × CS}     (σ : CS) (h : B_M_value_160 σ = some res) : NMI g p l e s m args below meth c A 1 23 8 am Rr res σ [(0, .ref (am 112))] 160 [] := by
  unfold B_M_value_160 at h
  refine nw_aload_n C dX12_value_160 rfl 0 rfl ?_
  refine nw_get (v := .ref (am 55)) C in_X12 0 ml_O rfl 55 (by decide) tw_1628 rfl mf_55 dX12_value_161 ?_
  refine nw_iconst (v := 0) C dX12_value_164 (by decide) ?_
  refine nw_iald C 35 ml_55 dX12_value_165 h (fun h => ?_)
  exact nm_iret C hr dX12_value_166 h
def f_M_value (p0 : Int32) (p1 : Int32) (p2 : Int32) (p3 : Int32) (σ : CS) : Option (Int32 × CS) := gix p1 120 (L_M_value_17 (B_M_value_160) p2 p3 FU 0 ((450 * p0) + (rd σ 32 p1)) σ)
set_option maxHeartbeats 4000000 in
set_option maxRecDepth 100000 in
theorem c_M_value {l : Launch} {g : EG} {am : Nat → Nat} {Rr : va_W} {σ σ' : CS} {r : Int32} {p0 : Int32} {p1 : Int32} {p2 : Int32} {p3 : Int32}  (h : f_M_value p0 p1 p2 p3 σ = some (r, σ')) : CmI l g yX12_value (.code yX12_value cX12_value 8 (some .int)) 1 23 am Rr σ [.ref (am 112), .int p0, .int p1, .int p2, .int p3] r σ' := by
  refine Ct.of rfl (by decide) (Nat.le_of_ble_eq_true rfl) ?_
  intro p e s m args below meth c A C hr
  show NMI g p l e s m args below meth c A 1 23 8 am Rr (r, σ') σ [(0, .ref (am 112)), (1, .int p0), (2, .int p1), (3, .int p2), (4, .int p3)] 0 []
  unfold f_M_value at h
  refine nw_iconst (v := 0) C dX12_value_0 (by decide) ?_
  refine nw_istore (lv' := [(5, .int 0), (0, .ref (am 112)), (1, .int p0), (2, .int p1), (3, .int p2), (4, .int p3)]) C dX12_value_1 (by decide) rfl ?_
  refine nw_sipush (v := 450) C dX12_value_3 (by decide) ?_
  refine nw_iload_n C dX12_value_6 rfl 2 rfl ?_
  refine nw_imul C dX12_value_7 ?_
  refine nw_aload_n C dX12_value_8 rfl 1 rfl ?_
  refine nw_get (v := .ref (am 32)) C in_X12 0 ml_O rfl 32 (by decide) tw_1605 rfl mf_32 dX12_value_9 ?_
  refine nw_iload_n C dX12_value_12 rfl 3 rfl ?_
  refine nw_iald C 16 ml_32 dX12_value_13 h (fun h => ?_)
  refine nw_iadd C dX12_value_14 ?_
  refine nw_istore (lv' := [(6, .int ((450 * p0) + (rd σ 32 p1))), (5, .int 0), (0, .ref (am 112)), (1, .int p0), (2, .int p1), (3, .int p2), (4, .int p3)]) C dX12_value_15 (by decide) rfl ?_
  exact nw_lv (lv' := [(0, .ref (am 112)), (3, .int p2), (4, .int p3), (5, .int 0), (6, .int ((450 * p0) + (rd σ 32 p1)))]) [2, 5, 6, 1, 0] rfl (w_M_value_17 C hr p2 p3 (fun σ_ h_ => w_M_value_160 C hr σ_ h_) FU 0 ((450 * p0) + (rd σ 32 p1)) _ h)
theorem dX12_words_0 : decode cX12_words 0 = .ok (.aload_n 0, 1) := by decide +kernel
theorem dX12_words_1 : decode cX12_words 1 = .ok (.iload_n 1, 1) := by decide +kernel
theorem dX12_words_2 : decode cX12_words 2 = .ok (.invokevirtual 531, 3) := by decide +kernel
theorem dX12_words_5 : decode cX12_words 5 = .ok (.istore_n 2, 1) := by decide +kernel
theorem dX12_words_6 : decode cX12_words 6 = .ok (.aload_n 0, 1) := by decide +kernel
theorem dX12_words_7 : decode cX12_words 7 = .ok (.aload_n 0, 1) := by decide +kernel
theorem dX12_words_8 : decode cX12_words 8 = .ok (.getfield 112, 3) := by decide +kernel
theorem dX12_words_11 : decode cX12_words 11 = .ok (.iload_n 1, 1) := by decide +kernel
theorem dX12_words_12 : decode cX12_words 12 = .ok (.iaload, 1) := by decide +kernel
theorem dX12_words_13 : decode cX12_words 13 = .ok (.invokevirtual 497, 3) := by decide +kernel
theorem dX12_words_16 : decode cX12_words 16 = .ok (.aload_n 0, 1) := by decide +kernel
theorem dX12_words_17 : decode cX12_words 17 = .ok (.iconst (-1), 1) := by decide +kernel
theorem dX12_words_18 : decode cX12_words 18 = .ok (.putfield 534, 3) := by decide +kernel
theorem dX12_words_21 : decode cX12_words 21 = .ok (.aload_n 0, 1) := by decide +kernel
theorem dX12_words_22 : decode cX12_words 22 = .ok (.iconst (-1), 1) := by decide +kernel
theorem dX12_words_23 : decode cX12_words 23 = .ok (.putfield 537, 3) := by decide +kernel
theorem dX12_words_26 : decode cX12_words 26 = .ok (.aload_n 0, 1) := by decide +kernel
theorem dX12_words_27 : decode cX12_words 27 = .ok (.iconst 0, 1) := by decide +kernel
theorem dX12_words_28 : decode cX12_words 28 = .ok (.putfield 540, 3) := by decide +kernel
theorem dX12_words_31 : decode cX12_words 31 = .ok (.aload_n 0, 1) := by decide +kernel
theorem dX12_words_32 : decode cX12_words 32 = .ok (.aload_n 0, 1) := by decide +kernel
theorem dX12_words_33 : decode cX12_words 33 = .ok (.getfield 115, 3) := by decide +kernel
theorem dX12_words_36 : decode cX12_words 36 = .ok (.iload_n 1, 1) := by decide +kernel
theorem dX12_words_37 : decode cX12_words 37 = .ok (.iaload, 1) := by decide +kernel
theorem dX12_words_38 : decode cX12_words 38 = .ok (.putfield 544, 3) := by decide +kernel
theorem dX12_words_41 : decode cX12_words 41 = .ok (.iconst 0, 1) := by decide +kernel
theorem dX12_words_42 : decode cX12_words 42 = .ok (.istore_n 3, 1) := by decide +kernel
theorem dX12_words_43 : decode cX12_words 43 = .ok (.iload_n 3, 1) := by decide +kernel
theorem dX12_words_44 : decode cX12_words 44 = .ok (.aload_n 0, 1) := by decide +kernel
theorem dX12_words_45 : decode cX12_words 45 = .ok (.getfield 422, 3) := by decide +kernel
theorem dX12_words_48 : decode cX12_words 48 = .ok (.if_icmp .ge 221, 3) := by decide +kernel
theorem dX12_words_51 : decode cX12_words 51 = .ok (.aload_n 0, 1) := by decide +kernel
theorem dX12_words_52 : decode cX12_words 52 = .ok (.getfield 75, 3) := by decide +kernel
theorem dX12_words_55 : decode cX12_words 55 = .ok (.iload_n 3, 1) := by decide +kernel
theorem dX12_words_56 : decode cX12_words 56 = .ok (.baload, 1) := by decide +kernel
theorem dX12_words_57 : decode cX12_words 57 = .ok (.ifCond .ne 6, 3) := by decide +kernel
theorem dX12_words_60 : decode cX12_words 60 = .ok (.goto 203, 3) := by decide +kernel
theorem dX12_words_63 : decode cX12_words 63 = .ok (.iconst 0, 1) := by decide +kernel
theorem dX12_words_64 : decode cX12_words 64 = .ok (.istore 4, 2) := by decide +kernel
theorem dX12_words_66 : decode cX12_words 66 = .ok (.iload 4, 2) := by decide +kernel
theorem dX12_words_68 : decode cX12_words 68 = .ok (.aload_n 0, 1) := by decide +kernel
theorem dX12_words_69 : decode cX12_words 69 = .ok (.getfield 51, 3) := by decide +kernel
theorem dX12_words_72 : decode cX12_words 72 = .ok (.iload_n 3, 1) := by decide +kernel
theorem dX12_words_73 : decode cX12_words 73 = .ok (.iaload, 1) := by decide +kernel
theorem dX12_words_74 : decode cX12_words 74 = .ok (.if_icmp .ge 189, 3) := by decide +kernel
theorem dX12_words_77 : decode cX12_words 77 = .ok (.bipush 12, 2) := by decide +kernel
theorem dX12_words_79 : decode cX12_words 79 = .ok (.iload_n 3, 1) := by decide +kernel
theorem dX12_words_80 : decode cX12_words 80 = .ok (.imul, 1) := by decide +kernel
theorem dX12_words_81 : decode cX12_words 81 = .ok (.iload 4, 2) := by decide +kernel
theorem dX12_words_83 : decode cX12_words 83 = .ok (.iadd, 1) := by decide +kernel
theorem dX12_words_84 : decode cX12_words 84 = .ok (.istore 5, 2) := by decide +kernel
theorem dX12_words_86 : decode cX12_words 86 = .ok (.aload_n 0, 1) := by decide +kernel
theorem dX12_words_87 : decode cX12_words 87 = .ok (.getfield 54, 3) := by decide +kernel
theorem dX12_words_90 : decode cX12_words 90 = .ok (.iload 5, 2) := by decide +kernel
theorem dX12_words_92 : decode cX12_words 92 = .ok (.iaload, 1) := by decide +kernel
theorem dX12_words_93 : decode cX12_words 93 = .ok (.iconst 3, 1) := by decide +kernel
theorem dX12_words_94 : decode cX12_words 94 = .ok (.if_icmp .gt 163, 3) := by decide +kernel
theorem dX12_words_97 : decode cX12_words 97 = .ok (.aload_n 0, 1) := by decide +kernel
theorem dX12_words_98 : decode cX12_words 98 = .ok (.getfield 57, 3) := by decide +kernel
theorem dX12_words_101 : decode cX12_words 101 = .ok (.iload 5, 2) := by decide +kernel
theorem dX12_words_103 : decode cX12_words 103 = .ok (.iaload, 1) := by decide +kernel
theorem dX12_words_104 : decode cX12_words 104 = .ok (.aload_n 0, 1) := by decide +kernel
theorem dX12_words_105 : decode cX12_words 105 = .ok (.getfield 103, 3) := by decide +kernel
theorem dX12_words_108 : decode cX12_words 108 = .ok (.iload_n 1, 1) := by decide +kernel
theorem dX12_words_109 : decode cX12_words 109 = .ok (.iaload, 1) := by decide +kernel
theorem dX12_words_110 : decode cX12_words 110 = .ok (.if_icmp .eq 6, 3) := by decide +kernel
theorem dX12_words_113 : decode cX12_words 113 = .ok (.goto 144, 3) := by decide +kernel
theorem dX12_words_116 : decode cX12_words 116 = .ok (.aload_n 0, 1) := by decide +kernel
theorem dX12_words_117 : decode cX12_words 117 = .ok (.getfield 54, 3) := by decide +kernel
theorem dX12_words_120 : decode cX12_words 120 = .ok (.iload 5, 2) := by decide +kernel
theorem dX12_words_122 : decode cX12_words 122 = .ok (.iaload, 1) := by decide +kernel
theorem dX12_words_123 : decode cX12_words 123 = .ok (.iconst 2, 1) := by decide +kernel
theorem dX12_words_124 : decode cX12_words 124 = .ok (.if_icmp .ne 26, 3) := by decide +kernel
theorem dX12_words_127 : decode cX12_words 127 = .ok (.aload_n 0, 1) := by decide +kernel
theorem dX12_words_128 : decode cX12_words 128 = .ok (.iconst (-1), 1) := by decide +kernel
theorem dX12_words_129 : decode cX12_words 129 = .ok (.putfield 534, 3) := by decide +kernel
theorem dX12_words_132 : decode cX12_words 132 = .ok (.aload_n 0, 1) := by decide +kernel
theorem dX12_words_133 : decode cX12_words 133 = .ok (.iconst 0, 1) := by decide +kernel
theorem dX12_words_134 : decode cX12_words 134 = .ok (.putfield 540, 3) := by decide +kernel
theorem dX12_words_137 : decode cX12_words 137 = .ok (.aload_n 0, 1) := by decide +kernel
theorem dX12_words_138 : decode cX12_words 138 = .ok (.aload_n 0, 1) := by decide +kernel
theorem dX12_words_139 : decode cX12_words 139 = .ok (.getfield 115, 3) := by decide +kernel
theorem dX12_words_142 : decode cX12_words 142 = .ok (.iload_n 1, 1) := by decide +kernel
theorem dX12_words_143 : decode cX12_words 143 = .ok (.iaload, 1) := by decide +kernel
theorem dX12_words_144 : decode cX12_words 144 = .ok (.putfield 544, 3) := by decide +kernel
theorem dX12_words_147 : decode cX12_words 147 = .ok (.goto 110, 3) := by decide +kernel
theorem dX12_words_150 : decode cX12_words 150 = .ok (.aload_n 0, 1) := by decide +kernel
theorem dX12_words_151 : decode cX12_words 151 = .ok (.getfield 54, 3) := by decide +kernel
theorem dX12_words_154 : decode cX12_words 154 = .ok (.iload 5, 2) := by decide +kernel
theorem dX12_words_156 : decode cX12_words 156 = .ok (.iaload, 1) := by decide +kernel
theorem dX12_words_157 : decode cX12_words 157 = .ok (.iconst 3, 1) := by decide +kernel
theorem dX12_words_158 : decode cX12_words 158 = .ok (.if_icmp .ne 46, 3) := by decide +kernel
theorem dX12_words_161 : decode cX12_words 161 = .ok (.aload_n 0, 1) := by decide +kernel
theorem dX12_words_162 : decode cX12_words 162 = .ok (.iload_n 3, 1) := by decide +kernel
theorem dX12_words_163 : decode cX12_words 163 = .ok (.iload 5, 2) := by decide +kernel
theorem dX12_words_165 : decode cX12_words 165 = .ok (.iload_n 1, 1) := by decide +kernel
theorem dX12_words_166 : decode cX12_words 166 = .ok (.iload_n 2, 1) := by decide +kernel
theorem dX12_words_167 : decode cX12_words 167 = .ok (.invokevirtual 547, 3) := by decide +kernel
theorem dX12_words_170 : decode cX12_words 170 = .ok (.istore 6, 2) := by decide +kernel
theorem dX12_words_172 : decode cX12_words 172 = .ok (.aload_n 0, 1) := by decide +kernel
theorem dX12_words_173 : decode cX12_words 173 = .ok (.iload 6, 2) := by decide +kernel
theorem dX12_words_175 : decode cX12_words 175 = .ok (.ifCond .ge 7, 3) := by decide +kernel
theorem dX12_words_178 : decode cX12_words 178 = .ok (.iconst 0, 1) := by decide +kernel
theorem dX12_words_179 : decode cX12_words 179 = .ok (.goto 19, 3) := by decide +kernel
theorem dX12_words_182 : decode cX12_words 182 = .ok (.iload 6, 2) := by decide +kernel
theorem dX12_words_184 : decode cX12_words 184 = .ok (.sipush 10000, 3) := by decide +kernel
theorem dX12_words_187 : decode cX12_words 187 = .ok (.if_icmp .le 9, 3) := by decide +kernel
theorem dX12_words_190 : decode cX12_words 190 = .ok (.sipush 10000, 3) := by decide +kernel
theorem dX12_words_193 : decode cX12_words 193 = .ok (.goto 5, 3) := by decide +kernel
theorem dX12_words_196 : decode cX12_words 196 = .ok (.iload 6, 2) := by decide +kernel
theorem dX12_words_198 : decode cX12_words 198 = .ok (.putfield 544, 3) := by decide +kernel
theorem dX12_words_201 : decode cX12_words 201 = .ok (.goto 56, 3) := by decide +kernel
theorem dX12_words_204 : decode cX12_words 204 = .ok (.aload_n 0, 1) := by decide +kernel
theorem dX12_words_205 : decode cX12_words 205 = .ok (.getfield 60, 3) := by decide +kernel
theorem dX12_words_208 : decode cX12_words 208 = .ok (.iload 5, 2) := by decide +kernel
theorem dX12_words_210 : decode cX12_words 210 = .ok (.iaload, 1) := by decide +kernel
theorem dX12_words_211 : decode cX12_words 211 = .ok (.ifCond .lt 16, 3) := by decide +kernel
theorem dX12_words_214 : decode cX12_words 214 = .ok (.aload_n 0, 1) := by decide +kernel
theorem dX12_words_215 : decode cX12_words 215 = .ok (.iload_n 3, 1) := by decide +kernel
theorem dX12_words_216 : decode cX12_words 216 = .ok (.iload 5, 2) := by decide +kernel
theorem dX12_words_218 : decode cX12_words 218 = .ok (.iload_n 1, 1) := by decide +kernel
theorem dX12_words_219 : decode cX12_words 219 = .ok (.iload_n 2, 1) := by decide +kernel
theorem dX12_words_220 : decode cX12_words 220 = .ok (.invokevirtual 547, 3) := by decide +kernel
theorem dX12_words_223 : decode cX12_words 223 = .ok (.iconst 1, 1) := by decide +kernel
theorem dX12_words_224 : decode cX12_words 224 = .ok (.if_icmp .ne 33, 3) := by decide +kernel
theorem dX12_words_227 : decode cX12_words 227 = .ok (.aload_n 0, 1) := by decide +kernel
theorem dX12_words_228 : decode cX12_words 228 = .ok (.iload_n 3, 1) := by decide +kernel
theorem dX12_words_229 : decode cX12_words 229 = .ok (.putfield 534, 3) := by decide +kernel
theorem dX12_words_232 : decode cX12_words 232 = .ok (.aload_n 0, 1) := by decide +kernel
theorem dX12_words_233 : decode cX12_words 233 = .ok (.iload 4, 2) := by decide +kernel
theorem dX12_words_235 : decode cX12_words 235 = .ok (.putfield 537, 3) := by decide +kernel
theorem dX12_words_238 : decode cX12_words 238 = .ok (.aload_n 0, 1) := by decide +kernel
theorem dX12_words_239 : decode cX12_words 239 = .ok (.aload_n 0, 1) := by decide +kernel
theorem dX12_words_240 : decode cX12_words 240 = .ok (.getfield 54, 3) := by decide +kernel
theorem dX12_words_243 : decode cX12_words 243 = .ok (.iload 5, 2) := by decide +kernel
theorem dX12_words_245 : decode cX12_words 245 = .ok (.iaload, 1) := by decide +kernel
theorem dX12_words_246 : decode cX12_words 246 = .ok (.ifCond .ne 7, 3) := by decide +kernel
theorem dX12_words_249 : decode cX12_words 249 = .ok (.iconst 1, 1) := by decide +kernel
theorem dX12_words_250 : decode cX12_words 250 = .ok (.goto 4, 3) := by decide +kernel
theorem dX12_words_253 : decode cX12_words 253 = .ok (.iconst 0, 1) := by decide +kernel
theorem dX12_words_254 : decode cX12_words 254 = .ok (.putfield 540, 3) := by decide +kernel
theorem dX12_words_257 : decode cX12_words 257 = .ok (.iinc 4 1, 3) := by decide +kernel
theorem dX12_words_260 : decode cX12_words 260 = .ok (.goto (-194), 3) := by decide +kernel
theorem dX12_words_263 : decode cX12_words 263 = .ok (.iinc 3 1, 3) := by decide +kernel
theorem dX12_words_266 : decode cX12_words 266 = .ok (.goto (-223), 3) := by decide +kernel
theorem dX12_words_269 : decode cX12_words 269 = .ok (.return_, 1) := by decide +kernel
def B_M_words_198 (k66 : Int32 → CS → Option (Int32 × CS)) (x1 : Int32) (x2 : Int32) (x3 : Int32) (x4 : Int32) (z1 : Int32) (σ : CS) : Option (Int32 × CS) := k66 (x4 + 1) (sF σ 58 z1)
set_option maxHeartbeats 4000000 in
set_option maxRecDepth 100000 in
theorem w_M_words_198 (C : Cx g p s m args meth c A 7 cX12_words yX12_words.cls) (hr : meth.sig.returnType = none)  {res : Int32 × CS}  (x1 : Int32) (x2 : Int32) (x3 : Int32) (x4 : Int32) (z1 : Int32) {k66 : Int32 → CS → Option (Int32 × CS)} (hk66 : ∀ (x4 : Int32) (σ : CS), k66 x4 σ = some res → NMV g p l e s m args below meth c A 5 140 7 am Rr res σ [(0, .ref (am 112)), (1, .int x1), (2, .int x2), (3, .int x3), (4, .int x4)] 66 []) (σ : CS) (h : B_M_words_198 k66 x1 x2 x3 x4 z1 σ = some res) : NMV g p l e s m args below meth c A 5 140 7 am Rr res σ [(0, .ref (am 112)), (1, .int x1), (2, .int x2), (3, .int x3), (4, .int x4)] 198 [.int z1, .ref (am 112)] := by
  unfold B_M_words_198 at h
  refine nw_put (ty := .int) C in_X12 0 ml_O rfl 58 (by decide) tyX12 tyX12_ok nmX12 tw_1631 rfl rfl (by decide +kernel) rfl rfl (Nat.le_of_ble_eq_true rfl) dX12_words_198 ms_58 ?_
  refine nw_goto (tgt := 257) C dX12_words_201 (by decide) ?_
  refine nw_iinc (lv' := [(4, .int (x4 + 1)), (0, .ref (am 112)), (1, .int x1), (2, .int x2), (3, .int x3)]) C (x4 + 1) dX12_words_257 4 rfl rfl (by decide) rfl ?_
  refine nw_goto (tgt := 66) C dX12_words_260 (by decide) ?_
  exact nw_lv (lv' := [(0, .ref (am 112)), (1, .int x1), (2, .int x2), (3, .int x3), (4, .int (x4 + 1))]) [1, 2, 3, 4, 0] rfl (hk66 (x4 + 1) _ h)
def B_M_words_254 (k66 : Int32 → CS → Option (Int32 × CS)) (x1 : Int32) (x2 : Int32) (x3 : Int32) (x4 : Int32) (z1 : Int32) (σ : CS) : Option (Int32 × CS) := grd (z1 = 0 ∨ z1 = 1) (k66 (x4 + 1) (sF σ 59 z1))
set_option maxHeartbeats 4000000 in
set_option maxRecDepth 100000 in
theorem w_M_words_254 (C : Cx g p s m args meth c A 7 cX12_words yX12_words.cls) (hr : meth.sig.returnType = none)  {res : Int32 × CS}  (x1 : Int32) (x2 : Int32) (x3 : Int32) (x4 : Int32) (z1 : Int32) {k66 : Int32 → CS → Option (Int32 × CS)} (hk66 : ∀ (x4 : Int32) (σ : CS), k66 x4 σ = some res → NMV g p l e s m args below meth c A 5 140 7 am Rr res σ [(0, .ref (am 112)), (1, .int x1), (2, .int x2), (3, .int x3), (4, .int x4)] 66 []) (σ : CS) (h : B_M_words_254 k66 x1 x2 x3 x4 z1 σ = some res) : NMV g p l e s m args below meth c A 5 140 7 am Rr res σ [(0, .ref (am 112)), (1, .int x1), (2, .int x2), (3, .int x3), (4, .int x4)] 254 [.int z1, .ref (am 112)] := by
  unfold B_M_words_254 at h
  have hb := grd_1 h
  replace h := grd_2 h
  refine nw_put (ty := .boolean) C in_X12 0 ml_O rfl 59 (by decide) tyX12 tyX12_ok nmX12 tw_1632 rfl rfl (by decide +kernel) (nar_b hb) (fit_b hb) (Nat.le_of_ble_eq_true rfl) dX12_words_254 ms_59 ?_
  refine nw_iinc (lv' := [(4, .int (x4 + 1)), (0, .ref (am 112)), (1, .int x1), (2, .int x2), (3, .int x3)]) C (x4 + 1) dX12_words_257 4 rfl rfl (by decide) rfl ?_
  refine nw_goto (tgt := 66) C dX12_words_260 (by decide) ?_
  exact nw_lv (lv' := [(0, .ref (am 112)), (1, .int x1), (2, .int x2), (3, .int x3), (4, .int (x4 + 1))]) [1, 2, 3, 4, 0] rfl (hk66 (x4 + 1) _ h)
def B_M_words_227 (k66 : Int32 → CS → Option (Int32 × CS)) (x1 : Int32) (x2 : Int32) (x3 : Int32) (x4 : Int32) (x5 : Int32) (σ : CS) : Option (Int32 × CS) := gix x5 120 (if (rd σ 30 x5) = 0 then B_M_words_254 k66 x1 x2 x3 x4 1 (sF (sF σ 56 x3) 57 x4) else B_M_words_254 k66 x1 x2 x3 x4 0 (sF (sF σ 56 x3) 57 x4))
set_option maxHeartbeats 4000000 in
set_option maxRecDepth 100000 in
theorem w_M_words_227 (C : Cx g p s m args meth c A 7 cX12_words yX12_words.cls) (hr : meth.sig.returnType = none)  {res : Int32 × CS}  (x1 : Int32) (x2 : Int32) (x3 : Int32) (x4 : Int32) (x5 : Int32) {k66 : Int32 → CS → Option (Int32 × CS)} (hk66 : ∀ (x4 : Int32) (σ : CS), k66 x4 σ = some res → NMV g p l e s m args below meth c A 5 140 7 am Rr res σ [(0, .ref (am 112)), (1, .int x1), (2, .int x2), (3, .int x3), (4, .int x4)] 66 []) (σ : CS) (h : B_M_words_227 k66 x1 x2 x3 x4 x5 σ = some res) : NMV g p l e s m args below meth c A 5 140 7 am Rr res σ [(0, .ref (am 112)), (1, .int x1), (2, .int x2), (3, .int x3), (4, .int x4), (5, .int x5)] 227 [] := by
  unfold B_M_words_227 at h
  refine nw_aload_n C dX12_words_227 rfl 0 rfl ?_
  refine nw_iload_n C dX12_words_228 rfl 3 rfl ?_
  refine nw_put (ty := .int) C in_X12 0 ml_O rfl 56 (by decide) tyX12 tyX12_ok nmX12 tw_1629 rfl rfl (by decide +kernel) rfl rfl (Nat.le_of_ble_eq_true rfl) dX12_words_229 ms_56 ?_
  refine nw_aload_n C dX12_words_232 rfl 0 rfl ?_
  refine nw_iload C dX12_words_233 4 rfl ?_
  refine nw_put (ty := .int) C in_X12 0 ml_O rfl 57 (by decide) tyX12 tyX12_ok nmX12 tw_1630 rfl rfl (by decide +kernel) rfl rfl (Nat.le_of_ble_eq_true rfl) dX12_words_235 ms_57 ?_
  refine nw_aload_n C dX12_words_238 rfl 0 rfl ?_
  refine nw_aload_n C dX12_words_239 rfl 0 rfl ?_
  refine nw_get (v := .ref (am 30)) C in_X12 0 ml_O rfl 30 (by decide) tw_1603 rfl mf_30 dX12_words_240 ?_
  refine nw_iload C dX12_words_243 5 rfl ?_
  refine nw_iald C 14 ml_30 dX12_words_245 h (fun h => ?_)
  refine nw_st (st' := [.int (rd σ 30 x5), .ref (am 112)]) rfl ?_
  refine nw_if_ne (tgt := 253) C dX12_words_246 (by decide) h (fun _ h => ?_) (fun _ h => ?_)
  · refine nw_iconst (v := 1) C dX12_words_249 (by decide) ?_
    refine nw_goto (tgt := 254) C dX12_words_250 (by decide) ?_
    exact nw_lv (lv' := [(0, .ref (am 112)), (1, .int x1), (2, .int x2), (3, .int x3), (4, .int x4)]) [0, 1, 2, 3, 4] rfl (w_M_words_254 C hr x1 x2 x3 x4 1 hk66 _ h)
  · refine nw_iconst (v := 0) C dX12_words_253 (by decide) ?_
    exact nw_lv (lv' := [(0, .ref (am 112)), (1, .int x1), (2, .int x2), (3, .int x3), (4, .int x4)]) [0, 1, 2, 3, 4] rfl (w_M_words_254 C hr x1 x2 x3 x4 0 hk66 _ h)
def L_M_words_66 (k43 : Int32 → CS → Option (Int32 × CS)) (x1 : Int32) (x2 : Int32) (x3 : Int32) : Nat → Int32 → CS → Option (Int32 × CS)
  | 0, _, _ => none
  | n + 1, x4, σ => gix x3 10 (if (rd σ 29 x3) ≤ x4 then k43 (x3 + 1) σ else gix ((12 * x3) + x4) 120 (if 3 < (rd σ 30 ((12 * x3) + x4)) then (L_M_words_66 k43 x1 x2 x3 n) (x4 + 1) σ else gix ((12 * x3) + x4) 120 (gix x1 60 (if (rd σ 31 ((12 * x3) + x4)) = (rd σ 50 x1) then gix ((12 * x3) + x4) 120 (if (rd σ 30 ((12 * x3) + x4)) = 2 then gix x1 60 ((L_M_words_66 k43 x1 x2 x3 n) (x4 + 1) (sF (sF (sF σ 56 (-1)) 59 0) 58 (rd σ 54 x1))) else gix ((12 * x3) + x4) 120 (if (rd σ 30 ((12 * x3) + x4)) = 3 then bnd (f_M_value x3 ((12 * x3) + x4) x1 x2 σ) (fun r167 σ167 => if 0 ≤ r167 then if r167 ≤ 10000 then B_M_words_198 (L_M_words_66 k43 x1 x2 x3 n) x1 x2 x3 x4 r167 σ167 else B_M_words_198 (L_M_words_66 k43 x1 x2 x3 n) x1 x2 x3 x4 10000 σ167 else B_M_words_198 (L_M_words_66 k43 x1 x2 x3 n) x1 x2 x3 x4 0 σ167) else gix ((12 * x3) + x4) 120 (if (rd σ 32 ((12 * x3) + x4)) < 0 then B_M_words_227 (L_M_words_66 k43 x1 x2 x3 n) x1 x2 x3 x4 ((12 * x3) + x4) σ else bnd (f_M_value x3 ((12 * x3) + x4) x1 x2 σ) (fun r220 σ220 => if r220 = 1 then B_M_words_227 (L_M_words_66 k43 x1 x2 x3 n) x1 x2 x3 x4 ((12 * x3) + x4) σ220 else (L_M_words_66 k43 x1 x2 x3 n) (x4 + 1) σ220)))) else (L_M_words_66 k43 x1 x2 x3 n) (x4 + 1) σ))))
set_option maxHeartbeats 4000000 in
set_option maxRecDepth 100000 in
theorem w_M_words_66 (C : Cx g p s m args meth c A 7 cX12_words yX12_words.cls) (hr : meth.sig.returnType = none)  {res : Int32 × CS}  (x1 : Int32) (x2 : Int32) (x3 : Int32) {k43 : Int32 → CS → Option (Int32 × CS)} (hk43 : ∀ (x3 : Int32) (σ : CS), k43 x3 σ = some res → NMV g p l e s m args below meth c A 5 140 7 am Rr res σ [(0, .ref (am 112)), (1, .int x1), (2, .int x2), (3, .int x3)] 43 []) : ∀ (n : Nat) (x4 : Int32) (σ : CS), L_M_words_66 k43 x1 x2 x3 n x4 σ = some res → NMV g p l e s m args below meth c A 5 140 7 am Rr res σ [(0, .ref (am 112)), (1, .int x1), (2, .int x2), (3, .int x3), (4, .int x4)] 66 [] := by
  intro n
  induction n with
  | zero =>
    intro x4 σ h
    exact absurd (show (none : Option (Int32 × CS)) = some res from h) (by intro h9; cases h9)
  | succ n ih =>
    intro x4 σ h
    rw [L_M_words_66] at h
    refine nw_iload C dX12_words_66 4 rfl ?_
    refine nw_aload_n C dX12_words_68 rfl 0 rfl ?_
    refine nw_get (v := .ref (am 29)) C in_X12 0 ml_O rfl 29 (by decide) tw_1602 rfl mf_29 dX12_words_69 ?_
    refine nw_iload_n C dX12_words_72 rfl 3 rfl ?_
    refine nw_iald C 13 ml_29 dX12_words_73 h (fun h => ?_)
    refine nw_icmp_ge (tgt := 263) C dX12_words_74 (by decide) h (fun _ h => ?_) (fun _ h => ?_)
    · refine nw_iinc (lv' := [(3, .int (x3 + 1)), (0, .ref (am 112)), (1, .int x1), (2, .int x2), (4, .int x4)]) C (x3 + 1) dX12_words_263 3 rfl rfl (by decide) rfl ?_
      refine nw_goto (tgt := 43) C dX12_words_266 (by decide) ?_
      exact nw_lv (lv' := [(0, .ref (am 112)), (1, .int x1), (2, .int x2), (3, .int (x3 + 1))]) [1, 2, 3, 0] rfl (hk43 (x3 + 1) _ h)
    · refine nw_bipush (v := 12) C dX12_words_77 (by decide) ?_
      refine nw_iload_n C dX12_words_79 rfl 3 rfl ?_
      refine nw_imul C dX12_words_80 ?_
      refine nw_iload C dX12_words_81 4 rfl ?_
      refine nw_iadd C dX12_words_83 ?_
      refine nw_istore (lv' := [(5, .int ((12 * x3) + x4)), (0, .ref (am 112)), (1, .int x1), (2, .int x2), (3, .int x3), (4, .int x4)]) C dX12_words_84 (by decide) rfl ?_
      refine nw_aload_n C dX12_words_86 rfl 1 rfl ?_
      refine nw_get (v := .ref (am 30)) C in_X12 0 ml_O rfl 30 (by decide) tw_1603 rfl mf_30 dX12_words_87 ?_
      refine nw_iload C dX12_words_90 0 rfl ?_
      refine nw_iald C 14 ml_30 dX12_words_92 h (fun h => ?_)
      refine nw_iconst (v := 3) C dX12_words_93 (by decide) ?_
      refine nw_icmp_gt (tgt := 257) C dX12_words_94 (by decide) h (fun _ h => ?_) (fun _ h => ?_)
      · refine nw_iinc (lv' := [(4, .int (x4 + 1)), (5, .int ((12 * x3) + x4)), (0, .ref (am 112)), (1, .int x1), (2, .int x2), (3, .int x3)]) C (x4 + 1) dX12_words_257 5 rfl rfl (by decide) rfl ?_
        refine nw_goto (tgt := 66) C dX12_words_260 (by decide) ?_
        exact nw_lv (lv' := [(0, .ref (am 112)), (1, .int x1), (2, .int x2), (3, .int x3), (4, .int (x4 + 1))]) [2, 3, 4, 5, 0] rfl (ih (x4 + 1) _ h)
      · refine nw_aload_n C dX12_words_97 rfl 1 rfl ?_
        refine nw_get (v := .ref (am 31)) C in_X12 0 ml_O rfl 31 (by decide) tw_1604 rfl mf_31 dX12_words_98 ?_
        refine nw_iload C dX12_words_101 0 rfl ?_
        refine nw_iald C 15 ml_31 dX12_words_103 h (fun h => ?_)
        refine nw_aload_n C dX12_words_104 rfl 1 rfl ?_
        refine nw_get (v := .ref (am 50)) C in_X12 0 ml_O rfl 50 (by decide) tw_1623 rfl mf_50 dX12_words_105 ?_
        refine nw_iload_n C dX12_words_108 rfl 2 rfl ?_
        refine nw_iald C 30 ml_50 dX12_words_109 h (fun h => ?_)
        refine nw_icmp_eq (tgt := 116) C dX12_words_110 (by decide) h (fun _ h => ?_) (fun _ h => ?_)
        · refine nw_aload_n C dX12_words_116 rfl 1 rfl ?_
          refine nw_get (v := .ref (am 30)) C in_X12 0 ml_O rfl 30 (by decide) tw_1603 rfl mf_30 dX12_words_117 ?_
          refine nw_iload C dX12_words_120 0 rfl ?_
          refine nw_iald C 14 ml_30 dX12_words_122 h (fun h => ?_)
          refine nw_iconst (v := 2) C dX12_words_123 (by decide) ?_
          refine nw_icmp_ne (tgt := 150) C dX12_words_124 (by decide) h (fun _ h => ?_) (fun _ h => ?_)
          · refine nw_aload_n C dX12_words_127 rfl 1 rfl ?_
            refine nw_iconst (v := (-1)) C dX12_words_128 (by decide) ?_
            refine nw_put (ty := .int) C in_X12 0 ml_O rfl 56 (by decide) tyX12 tyX12_ok nmX12 tw_1629 rfl rfl (by decide +kernel) rfl rfl (Nat.le_of_ble_eq_true rfl) dX12_words_129 ms_56 ?_
            refine nw_aload_n C dX12_words_132 rfl 1 rfl ?_
            refine nw_iconst (v := 0) C dX12_words_133 (by decide) ?_
            refine nw_put (ty := .boolean) C in_X12 0 ml_O rfl 59 (by decide) tyX12 tyX12_ok nmX12 tw_1632 rfl rfl (by decide +kernel) (nar_b (Or.inl rfl)) (fit_b (Or.inl rfl)) (Nat.le_of_ble_eq_true rfl) dX12_words_134 ms_59 ?_
            refine nw_aload_n C dX12_words_137 rfl 1 rfl ?_
            refine nw_aload_n C dX12_words_138 rfl 1 rfl ?_
            refine nw_get (v := .ref (am 54)) C in_X12 0 ml_O rfl 54 (by decide) tw_1627 rfl mf_54 dX12_words_139 ?_
            refine nw_iload_n C dX12_words_142 rfl 2 rfl ?_
            refine nw_iald C 34 ml_54 dX12_words_143 h (fun h => ?_)
            refine nw_st (st' := [.int (rd σ 54 x1), .ref (am 112)]) rfl ?_
            refine nw_put (ty := .int) C in_X12 0 ml_O rfl 58 (by decide) tyX12 tyX12_ok nmX12 tw_1631 rfl rfl (by decide +kernel) rfl rfl (Nat.le_of_ble_eq_true rfl) dX12_words_144 ms_58 ?_
            refine nw_goto (tgt := 257) C dX12_words_147 (by decide) ?_
            refine nw_iinc (lv' := [(4, .int (x4 + 1)), (5, .int ((12 * x3) + x4)), (0, .ref (am 112)), (1, .int x1), (2, .int x2), (3, .int x3)]) C (x4 + 1) dX12_words_257 5 rfl rfl (by decide) rfl ?_
            refine nw_goto (tgt := 66) C dX12_words_260 (by decide) ?_
            exact nw_lv (lv' := [(0, .ref (am 112)), (1, .int x1), (2, .int x2), (3, .int x3), (4, .int (x4 + 1))]) [2, 3, 4, 5, 0] rfl (ih (x4 + 1) _ h)
          · refine nw_aload_n C dX12_words_150 rfl 1 rfl ?_
            refine nw_get (v := .ref (am 30)) C in_X12 0 ml_O rfl 30 (by decide) tw_1603 rfl mf_30 dX12_words_151 ?_
            refine nw_iload C dX12_words_154 0 rfl ?_
            refine nw_iald C 14 ml_30 dX12_words_156 h (fun h => ?_)
            refine nw_iconst (v := 3) C dX12_words_157 (by decide) ?_
            refine nw_icmp_ne (tgt := 204) C dX12_words_158 (by decide) h (fun _ h => ?_) (fun _ h => ?_)
            · refine nw_aload_n C dX12_words_161 rfl 1 rfl ?_
              refine nw_iload_n C dX12_words_162 rfl 4 rfl ?_
              refine nw_iload C dX12_words_163 0 rfl ?_
              refine nw_iload_n C dX12_words_165 rfl 2 rfl ?_
              refine nw_iload_n C dX12_words_166 rfl 3 rfl ?_
              refine nm_callVI (q0 := 0) (As := [.int x3, .int ((12 * x3) + x4), .int x1, .int x2]) (rest := []) C h (fun _ _ e => c_M_value e) tw_2220 kv_X12_value ml_O rfl ⟨Nat.le_of_ble_eq_true rfl, Nat.le_of_ble_eq_true rfl⟩ rfl dX12_words_167 rfl (Nat.le_of_ble_eq_true rfl) (fun r167 σ167 h => ?_)
              refine nw_istore (lv' := [(6, .int r167), (5, .int ((12 * x3) + x4)), (0, .ref (am 112)), (1, .int x1), (2, .int x2), (3, .int x3), (4, .int x4)]) C dX12_words_170 (by decide) rfl ?_
              refine nw_aload_n C dX12_words_172 rfl 2 rfl ?_
              refine nw_iload C dX12_words_173 0 rfl ?_
              refine nw_if_ge (tgt := 182) C dX12_words_175 (by decide) h (fun _ h => ?_) (fun _ h => ?_)
              · refine nw_iload C dX12_words_182 0 rfl ?_
                refine nw_sipush (v := 10000) C dX12_words_184 (by decide) ?_
                refine nw_icmp_le (tgt := 196) C dX12_words_187 (by decide) h (fun _ h => ?_) (fun _ h => ?_)
                · refine nw_iload C dX12_words_196 0 rfl ?_
                  exact nw_lv (lv' := [(0, .ref (am 112)), (1, .int x1), (2, .int x2), (3, .int x3), (4, .int x4)]) [2, 3, 4, 5, 6] rfl (w_M_words_198 C hr x1 x2 x3 x4 r167 ih _ h)
                · refine nw_sipush (v := 10000) C dX12_words_190 (by decide) ?_
                  refine nw_goto (tgt := 198) C dX12_words_193 (by decide) ?_
                  exact nw_lv (lv' := [(0, .ref (am 112)), (1, .int x1), (2, .int x2), (3, .int x3), (4, .int x4)]) [2, 3, 4, 5, 6] rfl (w_M_words_198 C hr x1 x2 x3 x4 10000 ih _ h)
              · refine nw_iconst (v := 0) C dX12_words_178 (by decide) ?_
                refine nw_goto (tgt := 198) C dX12_words_179 (by decide) ?_
                exact nw_lv (lv' := [(0, .ref (am 112)), (1, .int x1), (2, .int x2), (3, .int x3), (4, .int x4)]) [2, 3, 4, 5, 6] rfl (w_M_words_198 C hr x1 x2 x3 x4 0 ih _ h)
            · refine nw_aload_n C dX12_words_204 rfl 1 rfl ?_
              refine nw_get (v := .ref (am 32)) C in_X12 0 ml_O rfl 32 (by decide) tw_1605 rfl mf_32 dX12_words_205 ?_
              refine nw_iload C dX12_words_208 0 rfl ?_
              refine nw_iald C 16 ml_32 dX12_words_210 h (fun h => ?_)
              refine nw_if_lt (tgt := 227) C dX12_words_211 (by decide) h (fun _ h => ?_) (fun _ h => ?_)
              · exact nw_lv (lv' := [(0, .ref (am 112)), (1, .int x1), (2, .int x2), (3, .int x3), (4, .int x4), (5, .int ((12 * x3) + x4))]) [1, 2, 3, 4, 5, 0] rfl (w_M_words_227 C hr x1 x2 x3 x4 ((12 * x3) + x4) ih _ h)
              · refine nw_aload_n C dX12_words_214 rfl 1 rfl ?_
                refine nw_iload_n C dX12_words_215 rfl 4 rfl ?_
                refine nw_iload C dX12_words_216 0 rfl ?_
                refine nw_iload_n C dX12_words_218 rfl 2 rfl ?_
                refine nw_iload_n C dX12_words_219 rfl 3 rfl ?_
                refine nm_callVI (q0 := 0) (As := [.int x3, .int ((12 * x3) + x4), .int x1, .int x2]) (rest := []) C h (fun _ _ e => c_M_value e) tw_2220 kv_X12_value ml_O rfl ⟨Nat.le_of_ble_eq_true rfl, Nat.le_of_ble_eq_true rfl⟩ rfl dX12_words_220 rfl (Nat.le_of_ble_eq_true rfl) (fun r220 σ220 h => ?_)
                refine nw_iconst (v := 1) C dX12_words_223 (by decide) ?_
                refine nw_icmp_ne (tgt := 257) C dX12_words_224 (by decide) h (fun _ h => ?_) (fun _ h => ?_)
                · exact nw_lv (lv' := [(0, .ref (am 112)), (1, .int x1), (2, .int x2), (3, .int x3), (4, .int x4), (5, .int ((12 * x3) + x4))]) [1, 2, 3, 4, 5, 0] rfl (w_M_words_227 C hr x1 x2 x3 x4 ((12 * x3) + x4) ih _ h)
                · refine nw_iinc (lv' := [(4, .int (x4 + 1)), (5, .int ((12 * x3) + x4)), (0, .ref (am 112)), (1, .int x1), (2, .int x2), (3, .int x3)]) C (x4 + 1) dX12_words_257 5 rfl rfl (by decide) rfl ?_
                  refine nw_goto (tgt := 66) C dX12_words_260 (by decide) ?_
                  exact nw_lv (lv' := [(0, .ref (am 112)), (1, .int x1), (2, .int x2), (3, .int x3), (4, .int (x4 + 1))]) [2, 3, 4, 5, 0] rfl (ih (x4 + 1) _ h)
        · refine nw_goto (tgt := 257) C dX12_words_113 (by decide) ?_
          refine nw_iinc (lv' := [(4, .int (x4 + 1)), (5, .int ((12 * x3) + x4)), (0, .ref (am 112)), (1, .int x1), (2, .int x2), (3, .int x3)]) C (x4 + 1) dX12_words_257 5 rfl rfl (by decide) rfl ?_
          refine nw_goto (tgt := 66) C dX12_words_260 (by decide) ?_
          exact nw_lv (lv' := [(0, .ref (am 112)), (1, .int x1), (2, .int x2), (3, .int x3), (4, .int (x4 + 1))]) [2, 3, 4, 5, 0] rfl (ih (x4 + 1) _ h)
def L_M_words_43  (x1 : Int32) (x2 : Int32) : Nat → Int32 → CS → Option (Int32 × CS)
  | 0, _, _ => none
  | n + 1, x3, σ => if (σ.1 21) ≤ x3 then some (0, σ) else gix x3 10 (if (rd σ 37 x3) = 0 then (L_M_words_43 x1 x2 n) (x3 + 1) σ else L_M_words_66 (L_M_words_43 x1 x2 n) x1 x2 x3 FU 0 σ)
set_option maxHeartbeats 4000000 in
set_option maxRecDepth 100000 in
theorem w_M_words_43 (C : Cx g p s m args meth c A 7 cX12_words yX12_words.cls) (hr : meth.sig.returnType = none)  {res : Int32 × CS}  (x1 : Int32) (x2 : Int32)  : ∀ (n : Nat) (x3 : Int32) (σ : CS), L_M_words_43 x1 x2 n x3 σ = some res → NMV g p l e s m args below meth c A 5 140 7 am Rr res σ [(0, .ref (am 112)), (1, .int x1), (2, .int x2), (3, .int x3)] 43 [] := by
  intro n
  induction n with
  | zero =>
    intro x3 σ h
    exact absurd (show (none : Option (Int32 × CS)) = some res from h) (by intro h9; cases h9)
  | succ n ih =>
    intro x3 σ h
    rw [L_M_words_43] at h
    refine nw_iload_n C dX12_words_43 rfl 3 rfl ?_
    refine nw_aload_n C dX12_words_44 rfl 0 rfl ?_
    refine nw_get (v := .int (σ.1 21)) C in_X12 0 ml_O rfl 21 (by decide) tw_1594 rfl mf_21 dX12_words_45 ?_
    refine nw_icmp_ge (tgt := 269) C dX12_words_48 (by decide) h (fun _ h => ?_) (fun _ h => ?_)
    · exact nm_vret C hr dX12_words_269 h
    · refine nw_aload_n C dX12_words_51 rfl 0 rfl ?_
      refine nw_get (v := .ref (am 37)) C in_X12 0 ml_O rfl 37 (by decide) tw_1610 rfl mf_37 dX12_words_52 ?_
      refine nw_iload_n C dX12_words_55 rfl 3 rfl ?_
      refine nw_zald C 21 ml_37 dX12_words_56 h (fun h => ?_)
      refine nw_if_ne (tgt := 63) C dX12_words_57 (by decide) h (fun _ h => ?_) (fun _ h => ?_)
      · refine nw_goto (tgt := 263) C dX12_words_60 (by decide) ?_
        refine nw_iinc (lv' := [(3, .int (x3 + 1)), (0, .ref (am 112)), (1, .int x1), (2, .int x2)]) C (x3 + 1) dX12_words_263 3 rfl rfl (by decide) rfl ?_
        refine nw_goto (tgt := 43) C dX12_words_266 (by decide) ?_
        exact nw_lv (lv' := [(0, .ref (am 112)), (1, .int x1), (2, .int x2), (3, .int (x3 + 1))]) [1, 2, 3, 0] rfl (ih (x3 + 1) _ h)
      · refine nw_iconst (v := 0) C dX12_words_63 (by decide) ?_
        refine nw_istore (lv' := [(4, .int 0), (0, .ref (am 112)), (1, .int x1), (2, .int x2), (3, .int x3)]) C dX12_words_64 (by decide) rfl ?_
        exact nw_lv (lv' := [(0, .ref (am 112)), (1, .int x1), (2, .int x2), (3, .int x3), (4, .int 0)]) [1, 2, 3, 4, 0] rfl (w_M_words_66 C hr x1 x2 x3 ih FU 0 _ h)
def f_M_words (p0 : Int32) (σ : CS) : Option (Int32 × CS) := bnd (f_M_deedPlace p0 σ) (fun r2 σ2 => gix p0 60 (bnd (f_M_forces (rd σ2 53 p0) σ2) (fun _ σ13 => gix p0 60 (L_M_words_43 p0 r2 FU 0 (sF (sF (sF (sF σ13 56 (-1)) 57 (-1)) 59 0) 58 (rd σ13 54 p0))))))
set_option maxHeartbeats 4000000 in
set_option maxRecDepth 100000 in
theorem c_M_words {l : Launch} {g : EG} {am : Nat → Nat} {Rr : va_W} {σ σ' : CS} {r : Int32} {p0 : Int32}  (h : f_M_words p0 σ = some (r, σ')) : CmV l g yX12_words (.code yX12_words cX12_words 7 none) 5 140 am Rr σ [.ref (am 112), .int p0] r σ' := by
  refine Ct.of rfl (by decide) (Nat.le_of_ble_eq_true rfl) ?_
  intro p e s m args below meth c A C hr
  show NMV g p l e s m args below meth c A 5 140 7 am Rr (r, σ') σ [(0, .ref (am 112)), (1, .int p0)] 0 []
  unfold f_M_words at h
  refine nw_aload_n C dX12_words_0 rfl 0 rfl ?_
  refine nw_iload_n C dX12_words_1 rfl 1 rfl ?_
  refine nm_callVI (q0 := 0) (As := [.int p0]) (rest := []) C h (fun _ _ e => c_M_deedPlace e) tw_2216 kv_X12_deedPlace ml_O rfl ⟨Nat.le_of_ble_eq_true rfl, Nat.le_of_ble_eq_true rfl⟩ rfl dX12_words_2 rfl (Nat.le_of_ble_eq_true rfl) (fun r2 σ2 h => ?_)
  refine nw_istore_n (lv' := [(2, .int r2), (0, .ref (am 112)), (1, .int p0)]) C dX12_words_5 rfl (by decide) rfl ?_
  refine nw_aload_n C dX12_words_6 rfl 1 rfl ?_
  refine nw_aload_n C dX12_words_7 rfl 1 rfl ?_
  refine nw_get (v := .ref (am 53)) C in_X12 0 ml_O rfl 53 (by decide) tw_1626 rfl mf_53 dX12_words_8 ?_
  refine nw_iload_n C dX12_words_11 rfl 2 rfl ?_
  refine nw_iald C 33 ml_53 dX12_words_12 h (fun h => ?_)
  refine nm_callVV (q0 := 0) (As := [.int (rd σ2 53 p0)]) (rest := []) C h (fun _ _ e => c_M_forces e) tw_2151 kv_X12_forces ml_O rfl ⟨Nat.le_of_ble_eq_true rfl, Nat.le_of_ble_eq_true rfl⟩ rfl dX12_words_13 rfl (Nat.le_of_ble_eq_true rfl) (fun r13 σ13 h => ?_)
  refine nw_aload_n C dX12_words_16 rfl 1 rfl ?_
  refine nw_iconst (v := (-1)) C dX12_words_17 (by decide) ?_
  refine nw_put (ty := .int) C in_X12 0 ml_O rfl 56 (by decide) tyX12 tyX12_ok nmX12 tw_1629 rfl rfl (by decide +kernel) rfl rfl (Nat.le_of_ble_eq_true rfl) dX12_words_18 ms_56 ?_
  refine nw_aload_n C dX12_words_21 rfl 1 rfl ?_
  refine nw_iconst (v := (-1)) C dX12_words_22 (by decide) ?_
  refine nw_put (ty := .int) C in_X12 0 ml_O rfl 57 (by decide) tyX12 tyX12_ok nmX12 tw_1630 rfl rfl (by decide +kernel) rfl rfl (Nat.le_of_ble_eq_true rfl) dX12_words_23 ms_57 ?_
  refine nw_aload_n C dX12_words_26 rfl 1 rfl ?_
  refine nw_iconst (v := 0) C dX12_words_27 (by decide) ?_
  refine nw_put (ty := .boolean) C in_X12 0 ml_O rfl 59 (by decide) tyX12 tyX12_ok nmX12 tw_1632 rfl rfl (by decide +kernel) (nar_b (Or.inl rfl)) (fit_b (Or.inl rfl)) (Nat.le_of_ble_eq_true rfl) dX12_words_28 ms_59 ?_
  refine nw_aload_n C dX12_words_31 rfl 1 rfl ?_
  refine nw_aload_n C dX12_words_32 rfl 1 rfl ?_
  refine nw_get (v := .ref (am 54)) C in_X12 0 ml_O rfl 54 (by decide) tw_1627 rfl mf_54 dX12_words_33 ?_
  refine nw_iload_n C dX12_words_36 rfl 2 rfl ?_
  refine nw_iald C 34 ml_54 dX12_words_37 h (fun h => ?_)
  refine nw_st (st' := [.int (rd σ13 54 p0), .ref (am 112)]) rfl ?_
  refine nw_put (ty := .int) C in_X12 0 ml_O rfl 58 (by decide) tyX12 tyX12_ok nmX12 tw_1631 rfl rfl (by decide +kernel) rfl rfl (Nat.le_of_ble_eq_true rfl) dX12_words_38 ms_58 ?_
  refine nw_iconst (v := 0) C dX12_words_41 (by decide) ?_
  refine nw_istore_n (lv' := [(3, .int 0), (2, .int r2), (0, .ref (am 112)), (1, .int p0)]) C dX12_words_42 rfl (by decide) rfl ?_
  exact nw_lv (lv' := [(0, .ref (am 112)), (1, .int p0), (2, .int r2), (3, .int 0)]) [2, 3, 1, 0] rfl (w_M_words_43 C hr p0 r2 FU 0 _ h)
theorem dX12_sureOf_0 : decode cX12_sureOf 0 = .ok (.aload_n 0, 1) := by decide +kernel
theorem dX12_sureOf_1 : decode cX12_sureOf 1 = .ok (.iload_n 2, 1) := by decide +kernel
theorem dX12_sureOf_2 : decode cX12_sureOf 2 = .ok (.iconst 3, 1) := by decide +kernel
theorem dX12_sureOf_3 : decode cX12_sureOf 3 = .ok (.invokevirtual 500, 3) := by decide +kernel
theorem dX12_sureOf_6 : decode cX12_sureOf 6 = .ok (.istore_n 3, 1) := by decide +kernel
theorem dX12_sureOf_7 : decode cX12_sureOf 7 = .ok (.iconst 0, 1) := by decide +kernel
theorem dX12_sureOf_8 : decode cX12_sureOf 8 = .ok (.istore 4, 2) := by decide +kernel
theorem dX12_sureOf_10 : decode cX12_sureOf 10 = .ok (.iconst 0, 1) := by decide +kernel
theorem dX12_sureOf_11 : decode cX12_sureOf 11 = .ok (.istore 5, 2) := by decide +kernel
theorem dX12_sureOf_13 : decode cX12_sureOf 13 = .ok (.iload 5, 2) := by decide +kernel
theorem dX12_sureOf_15 : decode cX12_sureOf 15 = .ok (.iload_n 3, 1) := by decide +kernel
theorem dX12_sureOf_16 : decode cX12_sureOf 16 = .ok (.if_icmp .ge 109, 3) := by decide +kernel
theorem dX12_sureOf_19 : decode cX12_sureOf 19 = .ok (.iconst 0, 1) := by decide +kernel
theorem dX12_sureOf_20 : decode cX12_sureOf 20 = .ok (.istore 6, 2) := by decide +kernel
theorem dX12_sureOf_22 : decode cX12_sureOf 22 = .ok (.bipush 60, 2) := by decide +kernel
theorem dX12_sureOf_24 : decode cX12_sureOf 24 = .ok (.iload_n 1, 1) := by decide +kernel
theorem dX12_sureOf_25 : decode cX12_sureOf 25 = .ok (.imul, 1) := by decide +kernel
theorem dX12_sureOf_26 : decode cX12_sureOf 26 = .ok (.istore 7, 2) := by decide +kernel
theorem dX12_sureOf_28 : decode cX12_sureOf 28 = .ok (.iload 7, 2) := by decide +kernel
theorem dX12_sureOf_30 : decode cX12_sureOf 30 = .ok (.bipush 60, 2) := by decide +kernel
theorem dX12_sureOf_32 : decode cX12_sureOf 32 = .ok (.iload_n 1, 1) := by decide +kernel
theorem dX12_sureOf_33 : decode cX12_sureOf 33 = .ok (.imul, 1) := by decide +kernel
theorem dX12_sureOf_34 : decode cX12_sureOf 34 = .ok (.aload_n 0, 1) := by decide +kernel
theorem dX12_sureOf_35 : decode cX12_sureOf 35 = .ok (.getfield 163, 3) := by decide +kernel
theorem dX12_sureOf_38 : decode cX12_sureOf 38 = .ok (.iload_n 1, 1) := by decide +kernel
theorem dX12_sureOf_39 : decode cX12_sureOf 39 = .ok (.iaload, 1) := by decide +kernel
theorem dX12_sureOf_40 : decode cX12_sureOf 40 = .ok (.iadd, 1) := by decide +kernel
theorem dX12_sureOf_41 : decode cX12_sureOf 41 = .ok (.if_icmp .ge 63, 3) := by decide +kernel
theorem dX12_sureOf_44 : decode cX12_sureOf 44 = .ok (.iload_n 2, 1) := by decide +kernel
theorem dX12_sureOf_45 : decode cX12_sureOf 45 = .ok (.aload_n 0, 1) := by decide +kernel
theorem dX12_sureOf_46 : decode cX12_sureOf 46 = .ok (.getfield 169, 3) := by decide +kernel
theorem dX12_sureOf_49 : decode cX12_sureOf 49 = .ok (.iload 7, 2) := by decide +kernel
theorem dX12_sureOf_51 : decode cX12_sureOf 51 = .ok (.iaload, 1) := by decide +kernel
theorem dX12_sureOf_52 : decode cX12_sureOf 52 = .ok (.isub, 1) := by decide +kernel
theorem dX12_sureOf_53 : decode cX12_sureOf 53 = .ok (.istore 8, 2) := by decide +kernel
theorem dX12_sureOf_55 : decode cX12_sureOf 55 = .ok (.iload 8, 2) := by decide +kernel
theorem dX12_sureOf_57 : decode cX12_sureOf 57 = .ok (.sipush 360, 3) := by decide +kernel
theorem dX12_sureOf_60 : decode cX12_sureOf 60 = .ok (.iload 5, 2) := by decide +kernel
theorem dX12_sureOf_62 : decode cX12_sureOf 62 = .ok (.imul, 1) := by decide +kernel
theorem dX12_sureOf_63 : decode cX12_sureOf 63 = .ok (.if_icmp .lt 35, 3) := by decide +kernel
theorem dX12_sureOf_66 : decode cX12_sureOf 66 = .ok (.iload 8, 2) := by decide +kernel
theorem dX12_sureOf_68 : decode cX12_sureOf 68 = .ok (.sipush 360, 3) := by decide +kernel
theorem dX12_sureOf_71 : decode cX12_sureOf 71 = .ok (.iload 5, 2) := by decide +kernel
theorem dX12_sureOf_73 : decode cX12_sureOf 73 = .ok (.iconst 1, 1) := by decide +kernel
theorem dX12_sureOf_74 : decode cX12_sureOf 74 = .ok (.iadd, 1) := by decide +kernel
theorem dX12_sureOf_75 : decode cX12_sureOf 75 = .ok (.imul, 1) := by decide +kernel
theorem dX12_sureOf_76 : decode cX12_sureOf 76 = .ok (.if_icmp .lt 6, 3) := by decide +kernel
theorem dX12_sureOf_79 : decode cX12_sureOf 79 = .ok (.goto 19, 3) := by decide +kernel
theorem dX12_sureOf_82 : decode cX12_sureOf 82 = .ok (.aload_n 0, 1) := by decide +kernel
theorem dX12_sureOf_83 : decode cX12_sureOf 83 = .ok (.getfield 166, 3) := by decide +kernel
theorem dX12_sureOf_86 : decode cX12_sureOf 86 = .ok (.iload 7, 2) := by decide +kernel
theorem dX12_sureOf_88 : decode cX12_sureOf 88 = .ok (.iaload, 1) := by decide +kernel
theorem dX12_sureOf_89 : decode cX12_sureOf 89 = .ok (.iconst 1, 1) := by decide +kernel
theorem dX12_sureOf_90 : decode cX12_sureOf 90 = .ok (.if_icmp .ne 5, 3) := by decide +kernel
theorem dX12_sureOf_93 : decode cX12_sureOf 93 = .ok (.iconst 0, 1) := by decide +kernel
theorem dX12_sureOf_94 : decode cX12_sureOf 94 = .ok (.ireturn, 1) := by decide +kernel
theorem dX12_sureOf_95 : decode cX12_sureOf 95 = .ok (.iconst 1, 1) := by decide +kernel
theorem dX12_sureOf_96 : decode cX12_sureOf 96 = .ok (.istore 6, 2) := by decide +kernel
theorem dX12_sureOf_98 : decode cX12_sureOf 98 = .ok (.iinc 7 1, 3) := by decide +kernel
theorem dX12_sureOf_101 : decode cX12_sureOf 101 = .ok (.goto (-73), 3) := by decide +kernel
theorem dX12_sureOf_104 : decode cX12_sureOf 104 = .ok (.iload 4, 2) := by decide +kernel
theorem dX12_sureOf_106 : decode cX12_sureOf 106 = .ok (.iload 6, 2) := by decide +kernel
theorem dX12_sureOf_108 : decode cX12_sureOf 108 = .ok (.ifCond .eq 7, 3) := by decide +kernel
theorem dX12_sureOf_111 : decode cX12_sureOf 111 = .ok (.iconst 1, 1) := by decide +kernel
theorem dX12_sureOf_112 : decode cX12_sureOf 112 = .ok (.goto 4, 3) := by decide +kernel
theorem dX12_sureOf_115 : decode cX12_sureOf 115 = .ok (.iconst 0, 1) := by decide +kernel
theorem dX12_sureOf_116 : decode cX12_sureOf 116 = .ok (.iadd, 1) := by decide +kernel
theorem dX12_sureOf_117 : decode cX12_sureOf 117 = .ok (.istore 4, 2) := by decide +kernel
theorem dX12_sureOf_119 : decode cX12_sureOf 119 = .ok (.iinc 5 1, 3) := by decide +kernel
theorem dX12_sureOf_122 : decode cX12_sureOf 122 = .ok (.goto (-109), 3) := by decide +kernel
theorem dX12_sureOf_125 : decode cX12_sureOf 125 = .ok (.iload 4, 2) := by decide +kernel
theorem dX12_sureOf_127 : decode cX12_sureOf 127 = .ok (.iload_n 3, 1) := by decide +kernel
theorem dX12_sureOf_128 : decode cX12_sureOf 128 = .ok (.if_icmp .ne 7, 3) := by decide +kernel
theorem dX12_sureOf_131 : decode cX12_sureOf 131 = .ok (.iconst 2, 1) := by decide +kernel
theorem dX12_sureOf_132 : decode cX12_sureOf 132 = .ok (.goto 16, 3) := by decide +kernel
theorem dX12_sureOf_135 : decode cX12_sureOf 135 = .ok (.iconst 2, 1) := by decide +kernel
theorem dX12_sureOf_136 : decode cX12_sureOf 136 = .ok (.iload 4, 2) := by decide +kernel
theorem dX12_sureOf_138 : decode cX12_sureOf 138 = .ok (.imul, 1) := by decide +kernel
theorem dX12_sureOf_139 : decode cX12_sureOf 139 = .ok (.iload_n 3, 1) := by decide +kernel
theorem dX12_sureOf_140 : decode cX12_sureOf 140 = .ok (.if_icmp .lt 7, 3) := by decide +kernel
theorem dX12_sureOf_143 : decode cX12_sureOf 143 = .ok (.iconst 1, 1) := by decide +kernel
theorem dX12_sureOf_144 : decode cX12_sureOf 144 = .ok (.goto 4, 3) := by decide +kernel
theorem dX12_sureOf_147 : decode cX12_sureOf 147 = .ok (.iconst 0, 1) := by decide +kernel
theorem dX12_sureOf_148 : decode cX12_sureOf 148 = .ok (.ireturn, 1) := by decide +kernel
def L_M_sureOf_28 (k104 : Int32 → Int32 → Int32 → CS → Option (Int32 × CS)) (x1 : Int32) (x2 : Int32) (x3 : Int32) (x4 : Int32) (x5 : Int32) : Nat → Int32 → Int32 → CS → Option (Int32 × CS)
  | 0, _, _, _ => none
  | n + 1, x6, x7, σ => gix x1 20 (if ((60 * x1) + (rd σ 76 x1)) ≤ x7 then k104 x4 x5 x6 σ else gix x7 1200 (if (x2 - (rd σ 78 x7)) < (360 * x5) then (L_M_sureOf_28 k104 x1 x2 x3 x4 x5 n) x6 (x7 + 1) σ else if (x2 - (rd σ 78 x7)) < (360 * (x5 + 1)) then gix x7 1200 (if (rd σ 77 x7) = 1 then some (0, σ) else (L_M_sureOf_28 k104 x1 x2 x3 x4 x5 n) 1 (x7 + 1) σ) else (L_M_sureOf_28 k104 x1 x2 x3 x4 x5 n) x6 (x7 + 1) σ))
set_option maxHeartbeats 4000000 in
set_option maxRecDepth 100000 in
theorem w_M_sureOf_28 (C : Cx g p s m args meth c A 9 cX12_sureOf yX12_sureOf.cls) (hr : meth.sig.returnType = (some .int))  {res : Int32 × CS}  (x1 : Int32) (x2 : Int32) (x3 : Int32) (x4 : Int32) (x5 : Int32) {k104 : Int32 → Int32 → Int32 → CS → Option (Int32 × CS)} (hk104 : ∀ (x4 : Int32) (x5 : Int32) (x6 : Int32) (σ : CS), k104 x4 x5 x6 σ = some res → NMI g p l e s m args below meth c A 2 50 9 am Rr res σ [(0, .ref (am 112)), (1, .int x1), (2, .int x2), (3, .int x3), (4, .int x4), (5, .int x5), (6, .int x6)] 104 []) : ∀ (n : Nat) (x6 : Int32) (x7 : Int32) (σ : CS), L_M_sureOf_28 k104 x1 x2 x3 x4 x5 n x6 x7 σ = some res → NMI g p l e s m args below meth c A 2 50 9 am Rr res σ [(0, .ref (am 112)), (1, .int x1), (2, .int x2), (3, .int x3), (4, .int x4), (5, .int x5), (6, .int x6), (7, .int x7)] 28 [] := by
  intro n
  induction n with
  | zero =>
    intro x6 x7 σ h
    exact absurd (show (none : Option (Int32 × CS)) = some res from h) (by intro h9; cases h9)
  | succ n ih =>
    intro x6 x7 σ h
    rw [L_M_sureOf_28] at h
    refine nw_iload C dX12_sureOf_28 7 rfl ?_
    refine nw_bipush (v := 60) C dX12_sureOf_30 (by decide) ?_
    refine nw_iload_n C dX12_sureOf_32 rfl 1 rfl ?_
    refine nw_imul C dX12_sureOf_33 ?_
    refine nw_aload_n C dX12_sureOf_34 rfl 0 rfl ?_
    refine nw_get (v := .ref (am 76)) C in_X12 0 ml_O rfl 76 (by decide) tw_1649 rfl mf_76 dX12_sureOf_35 ?_
    refine nw_iload_n C dX12_sureOf_38 rfl 1 rfl ?_
    refine nw_iald C 50 ml_76 dX12_sureOf_39 h (fun h => ?_)
    refine nw_iadd C dX12_sureOf_40 ?_
    refine nw_icmp_ge (tgt := 104) C dX12_sureOf_41 (by decide) h (fun _ h => ?_) (fun _ h => ?_)
    · exact nw_lv (lv' := [(0, .ref (am 112)), (1, .int x1), (2, .int x2), (3, .int x3), (4, .int x4), (5, .int x5), (6, .int x6)]) [0, 1, 2, 3, 4, 5, 6] rfl (hk104 x4 x5 x6 _ h)
    · refine nw_iload_n C dX12_sureOf_44 rfl 2 rfl ?_
      refine nw_aload_n C dX12_sureOf_45 rfl 0 rfl ?_
      refine nw_get (v := .ref (am 78)) C in_X12 0 ml_O rfl 78 (by decide) tw_1651 rfl mf_78 dX12_sureOf_46 ?_
      refine nw_iload C dX12_sureOf_49 7 rfl ?_
      refine nw_iald C 52 ml_78 dX12_sureOf_51 h (fun h => ?_)
      refine nw_isub C dX12_sureOf_52 ?_
      refine nw_istore (lv' := [(8, .int (x2 - (rd σ 78 x7))), (0, .ref (am 112)), (1, .int x1), (2, .int x2), (3, .int x3), (4, .int x4), (5, .int x5), (6, .int x6), (7, .int x7)]) C dX12_sureOf_53 (by decide) rfl ?_
      refine nw_iload C dX12_sureOf_55 0 rfl ?_
      refine nw_sipush (v := 360) C dX12_sureOf_57 (by decide) ?_
      refine nw_iload C dX12_sureOf_60 6 rfl ?_
      refine nw_imul C dX12_sureOf_62 ?_
      refine nw_icmp_lt (tgt := 98) C dX12_sureOf_63 (by decide) h (fun _ h => ?_) (fun _ h => ?_)
      · refine nw_iinc (lv' := [(7, .int (x7 + 1)), (8, .int (x2 - (rd σ 78 x7))), (0, .ref (am 112)), (1, .int x1), (2, .int x2), (3, .int x3), (4, .int x4), (5, .int x5), (6, .int x6)]) C (x7 + 1) dX12_sureOf_98 8 rfl rfl (by decide) rfl ?_
        refine nw_goto (tgt := 28) C dX12_sureOf_101 (by decide) ?_
        exact nw_lv (lv' := [(0, .ref (am 112)), (1, .int x1), (2, .int x2), (3, .int x3), (4, .int x4), (5, .int x5), (6, .int x6), (7, .int (x7 + 1))]) [2, 3, 4, 5, 6, 7, 8, 0] rfl (ih x6 (x7 + 1) _ h)
      · refine nw_iload C dX12_sureOf_66 0 rfl ?_
        refine nw_sipush (v := 360) C dX12_sureOf_68 (by decide) ?_
        refine nw_iload C dX12_sureOf_71 6 rfl ?_
        refine nw_iconst (v := 1) C dX12_sureOf_73 (by decide) ?_
        refine nw_iadd C dX12_sureOf_74 ?_
        refine nw_imul C dX12_sureOf_75 ?_
        refine nw_icmp_lt (tgt := 82) C dX12_sureOf_76 (by decide) h (fun _ h => ?_) (fun _ h => ?_)
        · refine nw_aload_n C dX12_sureOf_82 rfl 1 rfl ?_
          refine nw_get (v := .ref (am 77)) C in_X12 0 ml_O rfl 77 (by decide) tw_1650 rfl mf_77 dX12_sureOf_83 ?_
          refine nw_iload C dX12_sureOf_86 8 rfl ?_
          refine nw_iald C 51 ml_77 dX12_sureOf_88 h (fun h => ?_)
          refine nw_iconst (v := 1) C dX12_sureOf_89 (by decide) ?_
          refine nw_icmp_ne (tgt := 95) C dX12_sureOf_90 (by decide) h (fun _ h => ?_) (fun _ h => ?_)
          · refine nw_iconst (v := 0) C dX12_sureOf_93 (by decide) ?_
            exact nm_iret C hr dX12_sureOf_94 h
          · refine nw_iconst (v := 1) C dX12_sureOf_95 (by decide) ?_
            refine nw_istore (lv' := [(6, .int 1), (8, .int (x2 - (rd σ 78 x7))), (0, .ref (am 112)), (1, .int x1), (2, .int x2), (3, .int x3), (4, .int x4), (5, .int x5), (7, .int x7)]) C dX12_sureOf_96 (by decide) rfl ?_
            refine nw_iinc (lv' := [(7, .int (x7 + 1)), (6, .int 1), (8, .int (x2 - (rd σ 78 x7))), (0, .ref (am 112)), (1, .int x1), (2, .int x2), (3, .int x3), (4, .int x4), (5, .int x5)]) C (x7 + 1) dX12_sureOf_98 8 rfl rfl (by decide) rfl ?_
            refine nw_goto (tgt := 28) C dX12_sureOf_101 (by decide) ?_
            exact nw_lv (lv' := [(0, .ref (am 112)), (1, .int x1), (2, .int x2), (3, .int x3), (4, .int x4), (5, .int x5), (6, .int 1), (7, .int (x7 + 1))]) [3, 4, 5, 6, 7, 8, 1, 0] rfl (ih 1 (x7 + 1) _ h)
        · refine nw_goto (tgt := 98) C dX12_sureOf_79 (by decide) ?_
          refine nw_iinc (lv' := [(7, .int (x7 + 1)), (8, .int (x2 - (rd σ 78 x7))), (0, .ref (am 112)), (1, .int x1), (2, .int x2), (3, .int x3), (4, .int x4), (5, .int x5), (6, .int x6)]) C (x7 + 1) dX12_sureOf_98 8 rfl rfl (by decide) rfl ?_
          refine nw_goto (tgt := 28) C dX12_sureOf_101 (by decide) ?_
          exact nw_lv (lv' := [(0, .ref (am 112)), (1, .int x1), (2, .int x2), (3, .int x3), (4, .int x4), (5, .int x5), (6, .int x6), (7, .int (x7 + 1))]) [2, 3, 4, 5, 6, 7, 8, 0] rfl (ih x6 (x7 + 1) _ h)
def B_M_sureOf_116 (k13 : Int32 → Int32 → CS → Option (Int32 × CS)) (x1 : Int32) (x2 : Int32) (x3 : Int32) (x5 : Int32) (z0 : Int32) (z1 : Int32) (σ : CS) : Option (Int32 × CS) := k13 (z0 + z1) (x5 + 1) σ
set_option maxHeartbeats 4000000 in
set_option maxRecDepth 100000 in
theorem w_M_sureOf_116 (C : Cx g p s m args meth c A 9 cX12_sureOf yX12_sureOf.cls) (hr : meth.sig.returnType = (some .int))  {res : Int32 × CS}  (x1 : Int32) (x2 : Int32) (x3 : Int32) (x5 : Int32) (z0 : Int32) (z1 : Int32) {k13 : Int32 → Int32 → CS → Option (Int32 × CS)} (hk13 : ∀ (x4 : Int32) (x5 : Int32) (σ : CS), k13 x4 x5 σ = some res → NMI g p l e s m args below meth c A 2 50 9 am Rr res σ [(0, .ref (am 112)), (1, .int x1), (2, .int x2), (3, .int x3), (4, .int x4), (5, .int x5)] 13 []) (σ : CS) (h : B_M_sureOf_116 k13 x1 x2 x3 x5 z0 z1 σ = some res) : NMI g p l e s m args below meth c A 2 50 9 am Rr res σ [(0, .ref (am 112)), (1, .int x1), (2, .int x2), (3, .int x3), (5, .int x5)] 116 [.int z1, .int z0] := by
  unfold B_M_sureOf_116 at h
  refine nw_iadd C dX12_sureOf_116 ?_
  refine nw_istore (lv' := [(4, .int (z0 + z1)), (0, .ref (am 112)), (1, .int x1), (2, .int x2), (3, .int x3), (5, .int x5)]) C dX12_sureOf_117 (by decide) rfl ?_
  refine nw_iinc (lv' := [(5, .int (x5 + 1)), (4, .int (z0 + z1)), (0, .ref (am 112)), (1, .int x1), (2, .int x2), (3, .int x3)]) C (x5 + 1) dX12_sureOf_119 5 rfl rfl (by decide) rfl ?_
  refine nw_goto (tgt := 13) C dX12_sureOf_122 (by decide) ?_
  exact nw_lv (lv' := [(0, .ref (am 112)), (1, .int x1), (2, .int x2), (3, .int x3), (4, .int (z0 + z1)), (5, .int (x5 + 1))]) [2, 3, 4, 5, 1, 0] rfl (hk13 (z0 + z1) (x5 + 1) _ h)
def B_M_sureOf_104 (k13 : Int32 → Int32 → CS → Option (Int32 × CS)) (x1 : Int32) (x2 : Int32) (x3 : Int32) (x4 : Int32) (x5 : Int32) (x6 : Int32) (σ : CS) : Option (Int32 × CS) := if x6 = 0 then B_M_sureOf_116 k13 x1 x2 x3 x5 x4 0 σ else B_M_sureOf_116 k13 x1 x2 x3 x5 x4 1 σ
set_option maxHeartbeats 4000000 in
set_option maxRecDepth 100000 in
theorem w_M_sureOf_104 (C : Cx g p s m args meth c A 9 cX12_sureOf yX12_sureOf.cls) (hr : meth.sig.returnType = (some .int))  {res : Int32 × CS}  (x1 : Int32) (x2 : Int32) (x3 : Int32) (x4 : Int32) (x5 : Int32) (x6 : Int32) {k13 : Int32 → Int32 → CS → Option (Int32 × CS)} (hk13 : ∀ (x4 : Int32) (x5 : Int32) (σ : CS), k13 x4 x5 σ = some res → NMI g p l e s m args below meth c A 2 50 9 am Rr res σ [(0, .ref (am 112)), (1, .int x1), (2, .int x2), (3, .int x3), (4, .int x4), (5, .int x5)] 13 []) (σ : CS) (h : B_M_sureOf_104 k13 x1 x2 x3 x4 x5 x6 σ = some res) : NMI g p l e s m args below meth c A 2 50 9 am Rr res σ [(0, .ref (am 112)), (1, .int x1), (2, .int x2), (3, .int x3), (4, .int x4), (5, .int x5), (6, .int x6)] 104 [] := by
  unfold B_M_sureOf_104 at h
  refine nw_iload C dX12_sureOf_104 4 rfl ?_
  refine nw_iload C dX12_sureOf_106 6 rfl ?_
  refine nw_if_eq (tgt := 115) C dX12_sureOf_108 (by decide) h (fun _ h => ?_) (fun _ h => ?_)
  · refine nw_iconst (v := 0) C dX12_sureOf_115 (by decide) ?_
    exact nw_lv (lv' := [(0, .ref (am 112)), (1, .int x1), (2, .int x2), (3, .int x3), (5, .int x5)]) [0, 1, 2, 3, 5] rfl (w_M_sureOf_116 C hr x1 x2 x3 x5 x4 0 hk13 _ h)
  · refine nw_iconst (v := 1) C dX12_sureOf_111 (by decide) ?_
    refine nw_goto (tgt := 116) C dX12_sureOf_112 (by decide) ?_
    exact nw_lv (lv' := [(0, .ref (am 112)), (1, .int x1), (2, .int x2), (3, .int x3), (5, .int x5)]) [0, 1, 2, 3, 5] rfl (w_M_sureOf_116 C hr x1 x2 x3 x5 x4 1 hk13 _ h)
def L_M_sureOf_13 (k125 : Int32 → Int32 → CS → Option (Int32 × CS)) (x1 : Int32) (x2 : Int32) (x3 : Int32) : Nat → Int32 → Int32 → CS → Option (Int32 × CS)
  | 0, _, _, _ => none
  | n + 1, x4, x5, σ => if x3 ≤ x5 then k125 x3 x4 σ else L_M_sureOf_28 (B_M_sureOf_104 (L_M_sureOf_13 k125 x1 x2 x3 n) x1 x2 x3) x1 x2 x3 x4 x5 FU 0 (60 * x1) σ
set_option maxHeartbeats 4000000 in
set_option maxRecDepth 100000 in
theorem w_M_sureOf_13 (C : Cx g p s m args meth c A 9 cX12_sureOf yX12_sureOf.cls) (hr : meth.sig.returnType = (some .int))  {res : Int32 × CS}  (x1 : Int32) (x2 : Int32) (x3 : Int32) {k125 : Int32 → Int32 → CS → Option (Int32 × CS)} (hk125 : ∀ (x3 : Int32) (x4 : Int32) (σ : CS), k125 x3 x4 σ = some res → NMI g p l e s m args below meth c A 2 50 9 am Rr res σ [(3, .int x3), (4, .int x4)] 125 []) : ∀ (n : Nat) (x4 : Int32) (x5 : Int32) (σ : CS), L_M_sureOf_13 k125 x1 x2 x3 n x4 x5 σ = some res → NMI g p l e s m args below meth c A 2 50 9 am Rr res σ [(0, .ref (am 112)), (1, .int x1), (2, .int x2), (3, .int x3), (4, .int x4), (5, .int x5)] 13 [] := by
  intro n
  induction n with
  | zero =>
    intro x4 x5 σ h
    exact absurd (show (none : Option (Int32 × CS)) = some res from h) (by intro h9; cases h9)
  | succ n ih =>
    intro x4 x5 σ h
    rw [L_M_sureOf_13] at h
    refine nw_iload C dX12_sureOf_13 5 rfl ?_
    refine nw_iload_n C dX12_sureOf_15 rfl 3 rfl ?_
    refine nw_icmp_ge (tgt := 125) C dX12_sureOf_16 (by decide) h (fun _ h => ?_) (fun _ h => ?_)
    · exact nw_lv (lv' := [(3, .int x3), (4, .int x4)]) [3, 4] rfl (hk125 x3 x4 _ h)
    · refine nw_iconst (v := 0) C dX12_sureOf_19 (by decide) ?_
      refine nw_istore (lv' := [(6, .int 0), (0, .ref (am 112)), (1, .int x1), (2, .int x2), (3, .int x3), (4, .int x4), (5, .int x5)]) C dX12_sureOf_20 (by decide) rfl ?_
      refine nw_bipush (v := 60) C dX12_sureOf_22 (by decide) ?_
      refine nw_iload_n C dX12_sureOf_24 rfl 2 rfl ?_
      refine nw_imul C dX12_sureOf_25 ?_
      refine nw_istore (lv' := [(7, .int (60 * x1)), (6, .int 0), (0, .ref (am 112)), (1, .int x1), (2, .int x2), (3, .int x3), (4, .int x4), (5, .int x5)]) C dX12_sureOf_26 (by decide) rfl ?_
      exact nw_lv (lv' := [(0, .ref (am 112)), (1, .int x1), (2, .int x2), (3, .int x3), (4, .int x4), (5, .int x5), (6, .int 0), (7, .int (60 * x1))]) [2, 3, 4, 5, 6, 7, 1, 0] rfl (w_M_sureOf_28 C hr x1 x2 x3 x4 x5 (fun x4_ x5_ x6_ σ_ h_ => w_M_sureOf_104 C hr x1 x2 x3 x4_ x5_ x6_ ih σ_ h_) FU 0 (60 * x1) _ h)
def B_M_sureOf_125   (x3 : Int32) (x4 : Int32) (σ : CS) : Option (Int32 × CS) := if x4 = x3 then some (2, σ) else if (2 * x4) < x3 then some (0, σ) else some (1, σ)
set_option maxHeartbeats 4000000 in
set_option maxRecDepth 100000 in
theorem w_M_sureOf_125 (C : Cx g p s m args meth c A 9 cX12_sureOf yX12_sureOf.cls) (hr : meth.sig.returnType = (some .int))  {res : Int32 × CS}   (x3 : Int32) (x4 : Int32)  (σ : CS) (h : B_M_sureOf_125 x3 x4 σ = some res) : NMI g p l e s m args below meth c A 2 50 9 am Rr res σ [(3, .int x3), (4, .int x4)] 125 [] := by
  unfold B_M_sureOf_125 at h
  refine nw_iload C dX12_sureOf_125 1 rfl ?_
  refine nw_iload_n C dX12_sureOf_127 rfl 0 rfl ?_
  refine nw_icmp_ne (tgt := 135) C dX12_sureOf_128 (by decide) h (fun _ h => ?_) (fun _ h => ?_)
  · refine nw_iconst (v := 2) C dX12_sureOf_131 (by decide) ?_
    refine nw_goto (tgt := 148) C dX12_sureOf_132 (by decide) ?_
    exact nm_iret C hr dX12_sureOf_148 h
  · refine nw_iconst (v := 2) C dX12_sureOf_135 (by decide) ?_
    refine nw_iload C dX12_sureOf_136 1 rfl ?_
    refine nw_imul C dX12_sureOf_138 ?_
    refine nw_iload_n C dX12_sureOf_139 rfl 0 rfl ?_
    refine nw_icmp_lt (tgt := 147) C dX12_sureOf_140 (by decide) h (fun _ h => ?_) (fun _ h => ?_)
    · refine nw_iconst (v := 0) C dX12_sureOf_147 (by decide) ?_
      exact nm_iret C hr dX12_sureOf_148 h
    · refine nw_iconst (v := 1) C dX12_sureOf_143 (by decide) ?_
      refine nw_goto (tgt := 148) C dX12_sureOf_144 (by decide) ?_
      exact nm_iret C hr dX12_sureOf_148 h
def f_M_sureOf (p0 : Int32) (p1 : Int32) (σ : CS) : Option (Int32 × CS) := bnd (f_M_ruleOf p1 3 σ) (fun r3 σ3 => L_M_sureOf_13 (B_M_sureOf_125) p0 p1 r3 FU 0 0 σ3)
set_option maxHeartbeats 4000000 in
set_option maxRecDepth 100000 in
theorem c_M_sureOf {l : Launch} {g : EG} {am : Nat → Nat} {Rr : va_W} {σ σ' : CS} {r : Int32} {p0 : Int32} {p1 : Int32}  (h : f_M_sureOf p0 p1 σ = some (r, σ')) : CmI l g yX12_sureOf (.code yX12_sureOf cX12_sureOf 9 (some .int)) 2 50 am Rr σ [.ref (am 112), .int p0, .int p1] r σ' := by
  refine Ct.of rfl (by decide) (Nat.le_of_ble_eq_true rfl) ?_
  intro p e s m args below meth c A C hr
  show NMI g p l e s m args below meth c A 2 50 9 am Rr (r, σ') σ [(0, .ref (am 112)), (1, .int p0), (2, .int p1)] 0 []
  unfold f_M_sureOf at h
  refine nw_aload_n C dX12_sureOf_0 rfl 0 rfl ?_
  refine nw_iload_n C dX12_sureOf_1 rfl 2 rfl ?_
  refine nw_iconst (v := 3) C dX12_sureOf_2 (by decide) ?_
  refine nm_callVI (q0 := 0) (As := [.int p1, .int 3]) (rest := []) C h (fun _ _ e => c_M_ruleOf e) tw_2159 kv_X12_ruleOf ml_O rfl ⟨Nat.le_of_ble_eq_true rfl, Nat.le_of_ble_eq_true rfl⟩ rfl dX12_sureOf_3 rfl (Nat.le_of_ble_eq_true rfl) (fun r3 σ3 h => ?_)
  refine nw_istore_n (lv' := [(3, .int r3), (0, .ref (am 112)), (1, .int p0), (2, .int p1)]) C dX12_sureOf_6 rfl (by decide) rfl ?_
  refine nw_iconst (v := 0) C dX12_sureOf_7 (by decide) ?_
  refine nw_istore (lv' := [(4, .int 0), (3, .int r3), (0, .ref (am 112)), (1, .int p0), (2, .int p1)]) C dX12_sureOf_8 (by decide) rfl ?_
  refine nw_iconst (v := 0) C dX12_sureOf_10 (by decide) ?_
  refine nw_istore (lv' := [(5, .int 0), (4, .int 0), (3, .int r3), (0, .ref (am 112)), (1, .int p0), (2, .int p1)]) C dX12_sureOf_11 (by decide) rfl ?_
  exact nw_lv (lv' := [(0, .ref (am 112)), (1, .int p0), (2, .int p1), (3, .int r3), (4, .int 0), (5, .int 0)]) [3, 4, 5, 2, 1, 0] rfl (w_M_sureOf_13 C hr p0 p1 r3 (fun x3_ x4_ σ_ h_ => w_M_sureOf_125 C hr x3_ x4_ σ_ h_) FU 0 0 _ h)
theorem dX12_isBarred_0 : decode cX12_isBarred 0 = .ok (.aload_n 0, 1) := by decide +kernel
theorem dX12_isBarred_1 : decode cX12_isBarred 1 = .ok (.iload_n 1, 1) := by decide +kernel
theorem dX12_isBarred_2 : decode cX12_isBarred 2 = .ok (.invokevirtual 551, 3) := by decide +kernel
theorem dX12_isBarred_5 : decode cX12_isBarred 5 = .ok (.aload_n 0, 1) := by decide +kernel
theorem dX12_isBarred_6 : decode cX12_isBarred 6 = .ok (.getfield 540, 3) := by decide +kernel
theorem dX12_isBarred_9 : decode cX12_isBarred 9 = .ok (.ifCond .eq 11, 3) := by decide +kernel
theorem dX12_isBarred_12 : decode cX12_isBarred 12 = .ok (.aload_n 0, 1) := by decide +kernel
theorem dX12_isBarred_13 : decode cX12_isBarred 13 = .ok (.iload_n 1, 1) := by decide +kernel
theorem dX12_isBarred_14 : decode cX12_isBarred 14 = .ok (.invokevirtual 531, 3) := by decide +kernel
theorem dX12_isBarred_17 : decode cX12_isBarred 17 = .ok (.ifCond .ne 5, 3) := by decide +kernel
theorem dX12_isBarred_20 : decode cX12_isBarred 20 = .ok (.iconst 0, 1) := by decide +kernel
theorem dX12_isBarred_21 : decode cX12_isBarred 21 = .ok (.ireturn, 1) := by decide +kernel
theorem dX12_isBarred_22 : decode cX12_isBarred 22 = .ok (.iconst 0, 1) := by decide +kernel
theorem dX12_isBarred_23 : decode cX12_isBarred 23 = .ok (.istore_n 2, 1) := by decide +kernel
theorem dX12_isBarred_24 : decode cX12_isBarred 24 = .ok (.iload_n 2, 1) := by decide +kernel
theorem dX12_isBarred_25 : decode cX12_isBarred 25 = .ok (.aload_n 0, 1) := by decide +kernel
theorem dX12_isBarred_26 : decode cX12_isBarred 26 = .ok (.getfield 554, 3) := by decide +kernel
theorem dX12_isBarred_29 : decode cX12_isBarred 29 = .ok (.if_icmp .ge 136, 3) := by decide +kernel
theorem dX12_isBarred_32 : decode cX12_isBarred 32 = .ok (.aload_n 0, 1) := by decide +kernel
theorem dX12_isBarred_33 : decode cX12_isBarred 33 = .ok (.getfield 151, 3) := by decide +kernel
theorem dX12_isBarred_36 : decode cX12_isBarred 36 = .ok (.iload_n 2, 1) := by decide +kernel
theorem dX12_isBarred_37 : decode cX12_isBarred 37 = .ok (.iaload, 1) := by decide +kernel
theorem dX12_isBarred_38 : decode cX12_isBarred 38 = .ok (.aload_n 0, 1) := by decide +kernel
theorem dX12_isBarred_39 : decode cX12_isBarred 39 = .ok (.getfield 100, 3) := by decide +kernel
theorem dX12_isBarred_42 : decode cX12_isBarred 42 = .ok (.iload_n 1, 1) := by decide +kernel
theorem dX12_isBarred_43 : decode cX12_isBarred 43 = .ok (.iaload, 1) := by decide +kernel
theorem dX12_isBarred_44 : decode cX12_isBarred 44 = .ok (.if_icmp .eq 35, 3) := by decide +kernel
theorem dX12_isBarred_47 : decode cX12_isBarred 47 = .ok (.aload_n 0, 1) := by decide +kernel
theorem dX12_isBarred_48 : decode cX12_isBarred 48 = .ok (.aload_n 0, 1) := by decide +kernel
theorem dX12_isBarred_49 : decode cX12_isBarred 49 = .ok (.getfield 151, 3) := by decide +kernel
theorem dX12_isBarred_52 : decode cX12_isBarred 52 = .ok (.iload_n 2, 1) := by decide +kernel
theorem dX12_isBarred_53 : decode cX12_isBarred 53 = .ok (.iaload, 1) := by decide +kernel
theorem dX12_isBarred_54 : decode cX12_isBarred 54 = .ok (.invokevirtual 510, 3) := by decide +kernel
theorem dX12_isBarred_57 : decode cX12_isBarred 57 = .ok (.ifCond .eq 26, 3) := by decide +kernel
theorem dX12_isBarred_60 : decode cX12_isBarred 60 = .ok (.aload_n 0, 1) := by decide +kernel
theorem dX12_isBarred_61 : decode cX12_isBarred 61 = .ok (.aload_n 0, 1) := by decide +kernel
theorem dX12_isBarred_62 : decode cX12_isBarred 62 = .ok (.getfield 151, 3) := by decide +kernel
theorem dX12_isBarred_65 : decode cX12_isBarred 65 = .ok (.iload_n 2, 1) := by decide +kernel
theorem dX12_isBarred_66 : decode cX12_isBarred 66 = .ok (.iaload, 1) := by decide +kernel
theorem dX12_isBarred_67 : decode cX12_isBarred 67 = .ok (.invokevirtual 516, 3) := by decide +kernel
theorem dX12_isBarred_70 : decode cX12_isBarred 70 = .ok (.aload_n 0, 1) := by decide +kernel
theorem dX12_isBarred_71 : decode cX12_isBarred 71 = .ok (.getfield 100, 3) := by decide +kernel
theorem dX12_isBarred_74 : decode cX12_isBarred 74 = .ok (.iload_n 1, 1) := by decide +kernel
theorem dX12_isBarred_75 : decode cX12_isBarred 75 = .ok (.iaload, 1) := by decide +kernel
theorem dX12_isBarred_76 : decode cX12_isBarred 76 = .ok (.if_icmp .ne 7, 3) := by decide +kernel
theorem dX12_isBarred_79 : decode cX12_isBarred 79 = .ok (.iconst 1, 1) := by decide +kernel
theorem dX12_isBarred_80 : decode cX12_isBarred 80 = .ok (.goto 4, 3) := by decide +kernel
theorem dX12_isBarred_83 : decode cX12_isBarred 83 = .ok (.iconst 0, 1) := by decide +kernel
theorem dX12_isBarred_84 : decode cX12_isBarred 84 = .ok (.istore_n 3, 1) := by decide +kernel
theorem dX12_isBarred_85 : decode cX12_isBarred 85 = .ok (.iload_n 3, 1) := by decide +kernel
theorem dX12_isBarred_86 : decode cX12_isBarred 86 = .ok (.ifCond .eq 73, 3) := by decide +kernel
theorem dX12_isBarred_89 : decode cX12_isBarred 89 = .ok (.aload_n 0, 1) := by decide +kernel
theorem dX12_isBarred_90 : decode cX12_isBarred 90 = .ok (.getfield 154, 3) := by decide +kernel
theorem dX12_isBarred_93 : decode cX12_isBarred 93 = .ok (.iload_n 2, 1) := by decide +kernel
theorem dX12_isBarred_94 : decode cX12_isBarred 94 = .ok (.iaload, 1) := by decide +kernel
theorem dX12_isBarred_95 : decode cX12_isBarred 95 = .ok (.aload_n 0, 1) := by decide +kernel
theorem dX12_isBarred_96 : decode cX12_isBarred 96 = .ok (.getfield 103, 3) := by decide +kernel
theorem dX12_isBarred_99 : decode cX12_isBarred 99 = .ok (.iload_n 1, 1) := by decide +kernel
theorem dX12_isBarred_100 : decode cX12_isBarred 100 = .ok (.iaload, 1) := by decide +kernel
theorem dX12_isBarred_101 : decode cX12_isBarred 101 = .ok (.if_icmp .ne 58, 3) := by decide +kernel
theorem dX12_isBarred_104 : decode cX12_isBarred 104 = .ok (.aload_n 0, 1) := by decide +kernel
theorem dX12_isBarred_105 : decode cX12_isBarred 105 = .ok (.getfield 157, 3) := by decide +kernel
theorem dX12_isBarred_108 : decode cX12_isBarred 108 = .ok (.iload_n 2, 1) := by decide +kernel
theorem dX12_isBarred_109 : decode cX12_isBarred 109 = .ok (.iaload, 1) := by decide +kernel
theorem dX12_isBarred_110 : decode cX12_isBarred 110 = .ok (.aload_n 0, 1) := by decide +kernel
theorem dX12_isBarred_111 : decode cX12_isBarred 111 = .ok (.getfield 106, 3) := by decide +kernel
theorem dX12_isBarred_114 : decode cX12_isBarred 114 = .ok (.iload_n 1, 1) := by decide +kernel
theorem dX12_isBarred_115 : decode cX12_isBarred 115 = .ok (.iaload, 1) := by decide +kernel
theorem dX12_isBarred_116 : decode cX12_isBarred 116 = .ok (.isub, 1) := by decide +kernel
theorem dX12_isBarred_117 : decode cX12_isBarred 117 = .ok (.invokestatic 322, 3) := by decide +kernel
theorem dX12_isBarred_120 : decode cX12_isBarred 120 = .ok (.aload_n 0, 1) := by decide +kernel
theorem dX12_isBarred_121 : decode cX12_isBarred 121 = .ok (.getfield 160, 3) := by decide +kernel
theorem dX12_isBarred_124 : decode cX12_isBarred 124 = .ok (.iload_n 2, 1) := by decide +kernel
theorem dX12_isBarred_125 : decode cX12_isBarred 125 = .ok (.iaload, 1) := by decide +kernel
theorem dX12_isBarred_126 : decode cX12_isBarred 126 = .ok (.aload_n 0, 1) := by decide +kernel
theorem dX12_isBarred_127 : decode cX12_isBarred 127 = .ok (.getfield 109, 3) := by decide +kernel
theorem dX12_isBarred_130 : decode cX12_isBarred 130 = .ok (.iload_n 1, 1) := by decide +kernel
theorem dX12_isBarred_131 : decode cX12_isBarred 131 = .ok (.iaload, 1) := by decide +kernel
theorem dX12_isBarred_132 : decode cX12_isBarred 132 = .ok (.isub, 1) := by decide +kernel
theorem dX12_isBarred_133 : decode cX12_isBarred 133 = .ok (.invokestatic 322, 3) := by decide +kernel
theorem dX12_isBarred_136 : decode cX12_isBarred 136 = .ok (.iadd, 1) := by decide +kernel
theorem dX12_isBarred_137 : decode cX12_isBarred 137 = .ok (.bipush 20, 2) := by decide +kernel
theorem dX12_isBarred_139 : decode cX12_isBarred 139 = .ok (.if_icmp .gt 20, 3) := by decide +kernel
theorem dX12_isBarred_142 : decode cX12_isBarred 142 = .ok (.aload_n 0, 1) := by decide +kernel
theorem dX12_isBarred_143 : decode cX12_isBarred 143 = .ok (.iload_n 2, 1) := by decide +kernel
theorem dX12_isBarred_144 : decode cX12_isBarred 144 = .ok (.aload_n 0, 1) := by decide +kernel
theorem dX12_isBarred_145 : decode cX12_isBarred 145 = .ok (.getfield 112, 3) := by decide +kernel
theorem dX12_isBarred_148 : decode cX12_isBarred 148 = .ok (.iload_n 1, 1) := by decide +kernel
theorem dX12_isBarred_149 : decode cX12_isBarred 149 = .ok (.iaload, 1) := by decide +kernel
theorem dX12_isBarred_150 : decode cX12_isBarred 150 = .ok (.invokevirtual 557, 3) := by decide +kernel
theorem dX12_isBarred_153 : decode cX12_isBarred 153 = .ok (.iconst 2, 1) := by decide +kernel
theorem dX12_isBarred_154 : decode cX12_isBarred 154 = .ok (.if_icmp .ne 5, 3) := by decide +kernel
theorem dX12_isBarred_157 : decode cX12_isBarred 157 = .ok (.iconst 0, 1) := by decide +kernel
theorem dX12_isBarred_158 : decode cX12_isBarred 158 = .ok (.ireturn, 1) := by decide +kernel
theorem dX12_isBarred_159 : decode cX12_isBarred 159 = .ok (.iinc 2 1, 3) := by decide +kernel
theorem dX12_isBarred_162 : decode cX12_isBarred 162 = .ok (.goto (-138), 3) := by decide +kernel
theorem dX12_isBarred_165 : decode cX12_isBarred 165 = .ok (.iconst 1, 1) := by decide +kernel
theorem dX12_isBarred_166 : decode cX12_isBarred 166 = .ok (.ireturn, 1) := by decide +kernel
def B_M_isBarred_84 (k24 : Int32 → CS → Option (Int32 × CS)) (x1 : Int32) (x2 : Int32) (z0 : Int32) (σ : CS) : Option (Int32 × CS) := if z0 = 0 then k24 (x2 + 1) σ else gix x2 20 (gix x1 60 (if (rd σ 73 x2) = (rd σ 50 x1) then gix x2 20 (gix x1 60 (bnd (f_M_size ((rd σ 74 x2) - (rd σ 51 x1)) σ) (fun r117 σ117 => gix x2 20 (gix x1 60 (bnd (f_M_size ((rd σ117 75 x2) - (rd σ117 52 x1)) σ117) (fun r133 σ133 => if 20 < (r117 + r133) then k24 (x2 + 1) σ133 else gix x1 60 (bnd (f_M_sureOf x2 (rd σ133 53 x1) σ133) (fun r150 σ150 => if r150 = 2 then some (0, σ150) else k24 (x2 + 1) σ150)))))))) else k24 (x2 + 1) σ))
set_option maxHeartbeats 4000000 in
set_option maxRecDepth 100000 in
theorem w_M_isBarred_84 (C : Cx g p s m args meth c A 4 cX12_isBarred yX12_isBarred.cls) (hr : meth.sig.returnType = (some .boolean))  {res : Int32 × CS}  (x1 : Int32) (x2 : Int32) (z0 : Int32) {k24 : Int32 → CS → Option (Int32 × CS)} (hk24 : ∀ (x2 : Int32) (σ : CS), k24 x2 σ = some res → NMI g p l e s m args below meth c A 6 166 4 am Rr res σ [(0, .ref (am 112)), (1, .int x1), (2, .int x2)] 24 []) (σ : CS) (h : B_M_isBarred_84 k24 x1 x2 z0 σ = some res) : NMI g p l e s m args below meth c A 6 166 4 am Rr res σ [(0, .ref (am 112)), (1, .int x1), (2, .int x2)] 84 [.int z0] := by
  unfold B_M_isBarred_84 at h
  refine nw_istore_n (lv' := [(3, .int z0), (0, .ref (am 112)), (1, .int x1), (2, .int x2)]) C dX12_isBarred_84 rfl (by decide) rfl ?_
  refine nw_iload_n C dX12_isBarred_85 rfl 0 rfl ?_
  refine nw_if_eq (tgt := 159) C dX12_isBarred_86 (by decide) h (fun _ h => ?_) (fun _ h => ?_)
  · refine nw_iinc (lv' := [(2, .int (x2 + 1)), (3, .int z0), (0, .ref (am 112)), (1, .int x1)]) C (x2 + 1) dX12_isBarred_159 3 rfl rfl (by decide) rfl ?_
    refine nw_goto (tgt := 24) C dX12_isBarred_162 (by decide) ?_
    exact nw_lv (lv' := [(0, .ref (am 112)), (1, .int x1), (2, .int (x2 + 1))]) [2, 3, 0] rfl (hk24 (x2 + 1) _ h)
  · refine nw_aload_n C dX12_isBarred_89 rfl 1 rfl ?_
    refine nw_get (v := .ref (am 73)) C in_X12 0 ml_O rfl 73 (by decide) tw_1646 rfl mf_73 dX12_isBarred_90 ?_
    refine nw_iload_n C dX12_isBarred_93 rfl 3 rfl ?_
    refine nw_iald C 47 ml_73 dX12_isBarred_94 h (fun h => ?_)
    refine nw_aload_n C dX12_isBarred_95 rfl 1 rfl ?_
    refine nw_get (v := .ref (am 50)) C in_X12 0 ml_O rfl 50 (by decide) tw_1623 rfl mf_50 dX12_isBarred_96 ?_
    refine nw_iload_n C dX12_isBarred_99 rfl 2 rfl ?_
    refine nw_iald C 30 ml_50 dX12_isBarred_100 h (fun h => ?_)
    refine nw_icmp_ne (tgt := 159) C dX12_isBarred_101 (by decide) h (fun _ h => ?_) (fun _ h => ?_)
    · refine nw_aload_n C dX12_isBarred_104 rfl 1 rfl ?_
      refine nw_get (v := .ref (am 74)) C in_X12 0 ml_O rfl 74 (by decide) tw_1647 rfl mf_74 dX12_isBarred_105 ?_
      refine nw_iload_n C dX12_isBarred_108 rfl 3 rfl ?_
      refine nw_iald C 48 ml_74 dX12_isBarred_109 h (fun h => ?_)
      refine nw_aload_n C dX12_isBarred_110 rfl 1 rfl ?_
      refine nw_get (v := .ref (am 51)) C in_X12 0 ml_O rfl 51 (by decide) tw_1624 rfl mf_51 dX12_isBarred_111 ?_
      refine nw_iload_n C dX12_isBarred_114 rfl 2 rfl ?_
      refine nw_iald C 31 ml_51 dX12_isBarred_115 h (fun h => ?_)
      refine nw_isub C dX12_isBarred_116 ?_
      refine nm_callSI  (As := [.int ((rd σ 74 x2) - (rd σ 51 x1))]) (rest := []) C h (fun _ _ e => c_M_size e) tw_2006 ks_X12_size ⟨Nat.le_of_ble_eq_true rfl, Nat.le_of_ble_eq_true rfl⟩ rfl dX12_isBarred_117 rfl (Nat.le_of_ble_eq_true rfl) (fun r117 σ117 h => ?_)
      refine nw_aload_n C dX12_isBarred_120 rfl 1 rfl ?_
      refine nw_get (v := .ref (am 75)) C in_X12 0 ml_O rfl 75 (by decide) tw_1648 rfl mf_75 dX12_isBarred_121 ?_
      refine nw_iload_n C dX12_isBarred_124 rfl 3 rfl ?_
      refine nw_iald C 49 ml_75 dX12_isBarred_125 h (fun h => ?_)
      refine nw_aload_n C dX12_isBarred_126 rfl 1 rfl ?_
      refine nw_get (v := .ref (am 52)) C in_X12 0 ml_O rfl 52 (by decide) tw_1625 rfl mf_52 dX12_isBarred_127 ?_
      refine nw_iload_n C dX12_isBarred_130 rfl 2 rfl ?_
      refine nw_iald C 32 ml_52 dX12_isBarred_131 h (fun h => ?_)
      refine nw_isub C dX12_isBarred_132 ?_
      refine nm_callSI  (As := [.int ((rd σ117 75 x2) - (rd σ117 52 x1))]) (rest := [.int r117]) C h (fun _ _ e => c_M_size e) tw_2006 ks_X12_size ⟨Nat.le_of_ble_eq_true rfl, Nat.le_of_ble_eq_true rfl⟩ rfl dX12_isBarred_133 rfl (Nat.le_of_ble_eq_true rfl) (fun r133 σ133 h => ?_)
      refine nw_iadd C dX12_isBarred_136 ?_
      refine nw_bipush (v := 20) C dX12_isBarred_137 (by decide) ?_
      refine nw_icmp_gt (tgt := 159) C dX12_isBarred_139 (by decide) h (fun _ h => ?_) (fun _ h => ?_)
      · refine nw_iinc (lv' := [(2, .int (x2 + 1)), (3, .int z0), (0, .ref (am 112)), (1, .int x1)]) C (x2 + 1) dX12_isBarred_159 3 rfl rfl (by decide) rfl ?_
        refine nw_goto (tgt := 24) C dX12_isBarred_162 (by decide) ?_
        exact nw_lv (lv' := [(0, .ref (am 112)), (1, .int x1), (2, .int (x2 + 1))]) [2, 3, 0] rfl (hk24 (x2 + 1) _ h)
      · refine nw_aload_n C dX12_isBarred_142 rfl 1 rfl ?_
        refine nw_iload_n C dX12_isBarred_143 rfl 3 rfl ?_
        refine nw_aload_n C dX12_isBarred_144 rfl 1 rfl ?_
        refine nw_get (v := .ref (am 53)) C in_X12 0 ml_O rfl 53 (by decide) tw_1626 rfl mf_53 dX12_isBarred_145 ?_
        refine nw_iload_n C dX12_isBarred_148 rfl 2 rfl ?_
        refine nw_iald C 33 ml_53 dX12_isBarred_149 h (fun h => ?_)
        refine nm_callVI (q0 := 0) (As := [.int x2, .int (rd σ133 53 x1)]) (rest := []) C h (fun _ _ e => c_M_sureOf e) tw_2231 kv_X12_sureOf ml_O rfl ⟨Nat.le_of_ble_eq_true rfl, Nat.le_of_ble_eq_true rfl⟩ rfl dX12_isBarred_150 rfl (Nat.le_of_ble_eq_true rfl) (fun r150 σ150 h => ?_)
        refine nw_iconst (v := 2) C dX12_isBarred_153 (by decide) ?_
        refine nw_icmp_ne (tgt := 159) C dX12_isBarred_154 (by decide) h (fun _ h => ?_) (fun _ h => ?_)
        · refine nw_iconst (v := 0) C dX12_isBarred_157 (by decide) ?_
          exact nm_zret C hr (Or.inl rfl) dX12_isBarred_158 h
        · refine nw_iinc (lv' := [(2, .int (x2 + 1)), (3, .int z0), (0, .ref (am 112)), (1, .int x1)]) C (x2 + 1) dX12_isBarred_159 3 rfl rfl (by decide) rfl ?_
          refine nw_goto (tgt := 24) C dX12_isBarred_162 (by decide) ?_
          exact nw_lv (lv' := [(0, .ref (am 112)), (1, .int x1), (2, .int (x2 + 1))]) [2, 3, 0] rfl (hk24 (x2 + 1) _ h)
    · refine nw_iinc (lv' := [(2, .int (x2 + 1)), (3, .int z0), (0, .ref (am 112)), (1, .int x1)]) C (x2 + 1) dX12_isBarred_159 3 rfl rfl (by decide) rfl ?_
      refine nw_goto (tgt := 24) C dX12_isBarred_162 (by decide) ?_
      exact nw_lv (lv' := [(0, .ref (am 112)), (1, .int x1), (2, .int (x2 + 1))]) [2, 3, 0] rfl (hk24 (x2 + 1) _ h)
def B_M_isBarred_83 (k24 : Int32 → CS → Option (Int32 × CS)) (x1 : Int32) (x2 : Int32) (σ : CS) : Option (Int32 × CS) := B_M_isBarred_84 k24 x1 x2 0 σ
set_option maxHeartbeats 4000000 in
set_option maxRecDepth 100000 in
theorem w_M_isBarred_83 (C : Cx g p s m args meth c A 4 cX12_isBarred yX12_isBarred.cls) (hr : meth.sig.returnType = (some .boolean))  {res : Int32 × CS}  (x1 : Int32) (x2 : Int32) {k24 : Int32 → CS → Option (Int32 × CS)} (hk24 : ∀ (x2 : Int32) (σ : CS), k24 x2 σ = some res → NMI g p l e s m args below meth c A 6 166 4 am Rr res σ [(0, .ref (am 112)), (1, .int x1), (2, .int x2)] 24 []) (σ : CS) (h : B_M_isBarred_83 k24 x1 x2 σ = some res) : NMI g p l e s m args below meth c A 6 166 4 am Rr res σ [(0, .ref (am 112)), (1, .int x1), (2, .int x2)] 83 [] := by
  unfold B_M_isBarred_83 at h
  refine nw_iconst (v := 0) C dX12_isBarred_83 (by decide) ?_
  exact nw_lv (lv' := [(0, .ref (am 112)), (1, .int x1), (2, .int x2)]) [0, 1, 2] rfl (w_M_isBarred_84 C hr x1 x2 0 hk24 _ h)
def L_M_isBarred_24  (x1 : Int32) : Nat → Int32 → CS → Option (Int32 × CS)
  | 0, _, _ => none
  | n + 1, x2, σ => if (σ.1 71) ≤ x2 then some (1, σ) else gix x2 20 (gix x1 60 (if (rd σ 72 x2) = (rd σ 49 x1) then B_M_isBarred_84 (L_M_isBarred_24 x1 n) x1 x2 1 σ else gix x2 20 (bnd (f_M_isDead (rd σ 72 x2) σ) (fun r54 σ54 => if r54 = 0 then B_M_isBarred_83 (L_M_isBarred_24 x1 n) x1 x2 σ54 else gix x2 20 (bnd (f_M_owes (rd σ54 72 x2) σ54) (fun r67 σ67 => gix x1 60 (if r67 = (rd σ67 49 x1) then B_M_isBarred_84 (L_M_isBarred_24 x1 n) x1 x2 1 σ67 else B_M_isBarred_83 (L_M_isBarred_24 x1 n) x1 x2 σ67)))))))
set_option maxHeartbeats 4000000 in
set_option maxRecDepth 100000 in
theorem w_M_isBarred_24 (C : Cx g p s m args meth c A 4 cX12_isBarred yX12_isBarred.cls) (hr : meth.sig.returnType = (some .boolean))  {res : Int32 × CS}  (x1 : Int32)  : ∀ (n : Nat) (x2 : Int32) (σ : CS), L_M_isBarred_24 x1 n x2 σ = some res → NMI g p l e s m args below meth c A 6 166 4 am Rr res σ [(0, .ref (am 112)), (1, .int x1), (2, .int x2)] 24 [] := by
  intro n
  induction n with
  | zero =>
    intro x2 σ h
    exact absurd (show (none : Option (Int32 × CS)) = some res from h) (by intro h9; cases h9)
  | succ n ih =>
    intro x2 σ h
    rw [L_M_isBarred_24] at h
    refine nw_iload_n C dX12_isBarred_24 rfl 2 rfl ?_
    refine nw_aload_n C dX12_isBarred_25 rfl 0 rfl ?_
    refine nw_get (v := .int (σ.1 71)) C in_X12 0 ml_O rfl 71 (by decide) tw_1644 rfl mf_71 dX12_isBarred_26 ?_
    refine nw_icmp_ge (tgt := 165) C dX12_isBarred_29 (by decide) h (fun _ h => ?_) (fun _ h => ?_)
    · refine nw_iconst (v := 1) C dX12_isBarred_165 (by decide) ?_
      exact nm_zret C hr (Or.inr rfl) dX12_isBarred_166 h
    · refine nw_aload_n C dX12_isBarred_32 rfl 0 rfl ?_
      refine nw_get (v := .ref (am 72)) C in_X12 0 ml_O rfl 72 (by decide) tw_1645 rfl mf_72 dX12_isBarred_33 ?_
      refine nw_iload_n C dX12_isBarred_36 rfl 2 rfl ?_
      refine nw_iald C 46 ml_72 dX12_isBarred_37 h (fun h => ?_)
      refine nw_aload_n C dX12_isBarred_38 rfl 0 rfl ?_
      refine nw_get (v := .ref (am 49)) C in_X12 0 ml_O rfl 49 (by decide) tw_1622 rfl mf_49 dX12_isBarred_39 ?_
      refine nw_iload_n C dX12_isBarred_42 rfl 1 rfl ?_
      refine nw_iald C 29 ml_49 dX12_isBarred_43 h (fun h => ?_)
      refine nw_icmp_eq (tgt := 79) C dX12_isBarred_44 (by decide) h (fun _ h => ?_) (fun _ h => ?_)
      · refine nw_iconst (v := 1) C dX12_isBarred_79 (by decide) ?_
        refine nw_goto (tgt := 84) C dX12_isBarred_80 (by decide) ?_
        exact nw_lv (lv' := [(0, .ref (am 112)), (1, .int x1), (2, .int x2)]) [0, 1, 2] rfl (w_M_isBarred_84 C hr x1 x2 1 ih _ h)
      · refine nw_aload_n C dX12_isBarred_47 rfl 0 rfl ?_
        refine nw_aload_n C dX12_isBarred_48 rfl 0 rfl ?_
        refine nw_get (v := .ref (am 72)) C in_X12 0 ml_O rfl 72 (by decide) tw_1645 rfl mf_72 dX12_isBarred_49 ?_
        refine nw_iload_n C dX12_isBarred_52 rfl 2 rfl ?_
        refine nw_iald C 46 ml_72 dX12_isBarred_53 h (fun h => ?_)
        refine nm_callVI (q0 := 0) (As := [.int (rd σ 72 x2)]) (rest := []) C h (fun _ _ e => c_M_isDead e) tw_2180 kv_X12_isDead ml_O rfl ⟨Nat.le_of_ble_eq_true rfl, Nat.le_of_ble_eq_true rfl⟩ rfl dX12_isBarred_54 rfl (Nat.le_of_ble_eq_true rfl) (fun r54 σ54 h => ?_)
        refine nw_if_eq (tgt := 83) C dX12_isBarred_57 (by decide) h (fun _ h => ?_) (fun _ h => ?_)
        · exact nw_lv (lv' := [(0, .ref (am 112)), (1, .int x1), (2, .int x2)]) [0, 1, 2] rfl (w_M_isBarred_83 C hr x1 x2 ih _ h)
        · refine nw_aload_n C dX12_isBarred_60 rfl 0 rfl ?_
          refine nw_aload_n C dX12_isBarred_61 rfl 0 rfl ?_
          refine nw_get (v := .ref (am 72)) C in_X12 0 ml_O rfl 72 (by decide) tw_1645 rfl mf_72 dX12_isBarred_62 ?_
          refine nw_iload_n C dX12_isBarred_65 rfl 2 rfl ?_
          refine nw_iald C 46 ml_72 dX12_isBarred_66 h (fun h => ?_)
          refine nm_callVI (q0 := 0) (As := [.int (rd σ54 72 x2)]) (rest := []) C h (fun _ _ e => c_M_owes e) tw_2188 kv_X12_owes ml_O rfl ⟨Nat.le_of_ble_eq_true rfl, Nat.le_of_ble_eq_true rfl⟩ rfl dX12_isBarred_67 rfl (Nat.le_of_ble_eq_true rfl) (fun r67 σ67 h => ?_)
          refine nw_aload_n C dX12_isBarred_70 rfl 0 rfl ?_
          refine nw_get (v := .ref (am 49)) C in_X12 0 ml_O rfl 49 (by decide) tw_1622 rfl mf_49 dX12_isBarred_71 ?_
          refine nw_iload_n C dX12_isBarred_74 rfl 1 rfl ?_
          refine nw_iald C 29 ml_49 dX12_isBarred_75 h (fun h => ?_)
          refine nw_icmp_ne (tgt := 83) C dX12_isBarred_76 (by decide) h (fun _ h => ?_) (fun _ h => ?_)
          · refine nw_iconst (v := 1) C dX12_isBarred_79 (by decide) ?_
            refine nw_goto (tgt := 84) C dX12_isBarred_80 (by decide) ?_
            exact nw_lv (lv' := [(0, .ref (am 112)), (1, .int x1), (2, .int x2)]) [0, 1, 2] rfl (w_M_isBarred_84 C hr x1 x2 1 ih _ h)
          · exact nw_lv (lv' := [(0, .ref (am 112)), (1, .int x1), (2, .int x2)]) [0, 1, 2] rfl (w_M_isBarred_83 C hr x1 x2 ih _ h)
def f_M_isBarred (p0 : Int32) (σ : CS) : Option (Int32 × CS) := bnd (f_M_words p0 σ) (fun _ σ2 => if (σ2.1 59) = 0 then some (0, σ2) else bnd (f_M_deedPlace p0 σ2) (fun r14 σ14 => if r14 = 0 then some (0, σ14) else L_M_isBarred_24 p0 FU 0 σ14))
set_option maxHeartbeats 4000000 in
set_option maxRecDepth 100000 in
theorem c_M_isBarred {l : Launch} {g : EG} {am : Nat → Nat} {Rr : va_W} {σ σ' : CS} {r : Int32} {p0 : Int32}  (h : f_M_isBarred p0 σ = some (r, σ')) : CmI l g yX12_isBarred (.code yX12_isBarred cX12_isBarred 4 (some .boolean)) 6 166 am Rr σ [.ref (am 112), .int p0] r σ' := by
  refine Ct.of rfl (by decide) (Nat.le_of_ble_eq_true rfl) ?_
  intro p e s m args below meth c A C hr
  show NMI g p l e s m args below meth c A 6 166 4 am Rr (r, σ') σ [(0, .ref (am 112)), (1, .int p0)] 0 []
  unfold f_M_isBarred at h
  refine nw_aload_n C dX12_isBarred_0 rfl 0 rfl ?_
  refine nw_iload_n C dX12_isBarred_1 rfl 1 rfl ?_
  refine nm_callVV (q0 := 0) (As := [.int p0]) (rest := []) C h (fun _ _ e => c_M_words e) tw_2212 kv_X12_words ml_O rfl ⟨Nat.le_of_ble_eq_true rfl, Nat.le_of_ble_eq_true rfl⟩ rfl dX12_isBarred_2 rfl (Nat.le_of_ble_eq_true rfl) (fun r2 σ2 h => ?_)
  refine nw_aload_n C dX12_isBarred_5 rfl 0 rfl ?_
  refine nw_get (v := .int (σ2.1 59)) C in_X12 0 ml_O rfl 59 (by decide) tw_1632 rfl mf_59 dX12_isBarred_6 ?_
  refine nw_if_eq (tgt := 20) C dX12_isBarred_9 (by decide) h (fun _ h => ?_) (fun _ h => ?_)
  · refine nw_iconst (v := 0) C dX12_isBarred_20 (by decide) ?_
    exact nm_zret C hr (Or.inl rfl) dX12_isBarred_21 h
  · refine nw_aload_n C dX12_isBarred_12 rfl 0 rfl ?_
    refine nw_iload_n C dX12_isBarred_13 rfl 1 rfl ?_
    refine nm_callVI (q0 := 0) (As := [.int p0]) (rest := []) C h (fun _ _ e => c_M_deedPlace e) tw_2216 kv_X12_deedPlace ml_O rfl ⟨Nat.le_of_ble_eq_true rfl, Nat.le_of_ble_eq_true rfl⟩ rfl dX12_isBarred_14 rfl (Nat.le_of_ble_eq_true rfl) (fun r14 σ14 h => ?_)
    refine nw_if_ne (tgt := 22) C dX12_isBarred_17 (by decide) h (fun _ h => ?_) (fun _ h => ?_)
    · refine nw_iconst (v := 0) C dX12_isBarred_20 (by decide) ?_
      exact nm_zret C hr (Or.inl rfl) dX12_isBarred_21 h
    · refine nw_iconst (v := 0) C dX12_isBarred_22 (by decide) ?_
      refine nw_istore_n (lv' := [(2, .int 0), (0, .ref (am 112)), (1, .int p0)]) C dX12_isBarred_23 rfl (by decide) rfl ?_
      exact nw_lv (lv' := [(0, .ref (am 112)), (1, .int p0), (2, .int 0)]) [1, 2, 0] rfl (w_M_isBarred_24 C hr p0 FU 0 _ h)
theorem dX12_isDeed_0 : decode cX12_isDeed 0 = .ok (.aload_n 0, 1) := by decide +kernel
theorem dX12_isDeed_1 : decode cX12_isDeed 1 = .ok (.iload_n 1, 1) := by decide +kernel
theorem dX12_isDeed_2 : decode cX12_isDeed 2 = .ok (.iconst 0, 1) := by decide +kernel
theorem dX12_isDeed_3 : decode cX12_isDeed 3 = .ok (.aload_n 0, 1) := by decide +kernel
theorem dX12_isDeed_4 : decode cX12_isDeed 4 = .ok (.getfield 522, 3) := by decide +kernel
theorem dX12_isDeed_7 : decode cX12_isDeed 7 = .ok (.iconst 1, 1) := by decide +kernel
theorem dX12_isDeed_8 : decode cX12_isDeed 8 = .ok (.isub, 1) := by decide +kernel
theorem dX12_isDeed_9 : decode cX12_isDeed 9 = .ok (.invokestatic 257, 3) := by decide +kernel
theorem dX12_isDeed_12 : decode cX12_isDeed 12 = .ok (.ifCond .eq 7, 3) := by decide +kernel
theorem dX12_isDeed_15 : decode cX12_isDeed 15 = .ok (.iconst 0, 1) := by decide +kernel
theorem dX12_isDeed_16 : decode cX12_isDeed 16 = .ok (.goto 4, 3) := by decide +kernel
theorem dX12_isDeed_19 : decode cX12_isDeed 19 = .ok (.iconst 1, 1) := by decide +kernel
theorem dX12_isDeed_20 : decode cX12_isDeed 20 = .ok (.putfield 253, 3) := by decide +kernel
theorem dX12_isDeed_23 : decode cX12_isDeed 23 = .ok (.aload_n 0, 1) := by decide +kernel
theorem dX12_isDeed_24 : decode cX12_isDeed 24 = .ok (.getfield 253, 3) := by decide +kernel
theorem dX12_isDeed_27 : decode cX12_isDeed 27 = .ok (.ifCond .ne 7, 3) := by decide +kernel
theorem dX12_isDeed_30 : decode cX12_isDeed 30 = .ok (.iconst 1, 1) := by decide +kernel
theorem dX12_isDeed_31 : decode cX12_isDeed 31 = .ok (.goto 4, 3) := by decide +kernel
theorem dX12_isDeed_34 : decode cX12_isDeed 34 = .ok (.iconst 0, 1) := by decide +kernel
theorem dX12_isDeed_35 : decode cX12_isDeed 35 = .ok (.ireturn, 1) := by decide +kernel
def B_M_isDeed_20   (z1 : Int32) (σ : CS) : Option (Int32 × CS) := if z1 = 0 then some (1, (sF σ 0 z1)) else some (0, (sF σ 0 z1))
set_option maxHeartbeats 4000000 in
set_option maxRecDepth 100000 in
theorem w_M_isDeed_20 (C : Cx g p s m args meth c A 2 cX12_isDeed yX12_isDeed.cls) (hr : meth.sig.returnType = (some .boolean))  {res : Int32 × CS}   (z1 : Int32)  (σ : CS) (h : B_M_isDeed_20 z1 σ = some res) : NMI g p l e s m args below meth c A 1 22 2 am Rr res σ [(0, .ref (am 112))] 20 [.int z1, .ref (am 112)] := by
  unfold B_M_isDeed_20 at h
  refine nw_put (ty := .int) C in_X12 0 ml_O rfl 0 (by decide) tyX12 tyX12_ok nmX12 tw_1573 rfl rfl (by decide +kernel) rfl rfl (Nat.le_of_ble_eq_true rfl) dX12_isDeed_20 ms_0 ?_
  refine nw_aload_n C dX12_isDeed_23 rfl 0 rfl ?_
  refine nw_get (v := .int z1) C in_X12 0 ml_O rfl 0 (by decide) tw_1573 rfl rfl dX12_isDeed_24 ?_
  refine nw_if_ne (tgt := 34) C dX12_isDeed_27 (by decide) h (fun _ h => ?_) (fun _ h => ?_)
  · refine nw_iconst (v := 1) C dX12_isDeed_30 (by decide) ?_
    refine nw_goto (tgt := 35) C dX12_isDeed_31 (by decide) ?_
    exact nm_zret C hr (Or.inr rfl) dX12_isDeed_35 h
  · refine nw_iconst (v := 0) C dX12_isDeed_34 (by decide) ?_
    exact nm_zret C hr (Or.inl rfl) dX12_isDeed_35 h
def f_M_isDeed (p0 : Int32) (σ : CS) : Option (Int32 × CS) := bnd (f_M_in p0 0 ((σ.1 48) - 1) σ) (fun r9 σ9 => if r9 = 0 then B_M_isDeed_20 1 σ9 else B_M_isDeed_20 0 σ9)
set_option maxHeartbeats 4000000 in
set_option maxRecDepth 100000 in
theorem c_M_isDeed {l : Launch} {g : EG} {am : Nat → Nat} {Rr : va_W} {σ σ' : CS} {r : Int32} {p0 : Int32}  (h : f_M_isDeed p0 σ = some (r, σ')) : CmI l g yX12_isDeed (.code yX12_isDeed cX12_isDeed 2 (some .boolean)) 1 22 am Rr σ [.ref (am 112), .int p0] r σ' := by
  refine Ct.of rfl (by decide) (Nat.le_of_ble_eq_true rfl) ?_
  intro p e s m args below meth c A C hr
  show NMI g p l e s m args below meth c A 1 22 2 am Rr (r, σ') σ [(0, .ref (am 112)), (1, .int p0)] 0 []
  unfold f_M_isDeed at h
  refine nw_aload_n C dX12_isDeed_0 rfl 0 rfl ?_
  refine nw_iload_n C dX12_isDeed_1 rfl 1 rfl ?_
  refine nw_iconst (v := 0) C dX12_isDeed_2 (by decide) ?_
  refine nw_aload_n C dX12_isDeed_3 rfl 0 rfl ?_
  refine nw_get (v := .int (σ.1 48)) C in_X12 0 ml_O rfl 48 (by decide) tw_1621 rfl mf_48 dX12_isDeed_4 ?_
  refine nw_iconst (v := 1) C dX12_isDeed_7 (by decide) ?_
  refine nw_isub C dX12_isDeed_8 ?_
  refine nm_callSI  (As := [.int p0, .int 0, .int ((σ.1 48) - 1)]) (rest := [.ref (am 112)]) C h (fun _ _ e => c_M_in e) tw_1918 ks_X12_in ⟨Nat.le_of_ble_eq_true rfl, Nat.le_of_ble_eq_true rfl⟩ rfl dX12_isDeed_9 rfl (Nat.le_of_ble_eq_true rfl) (fun r9 σ9 h => ?_)
  refine nw_if_eq (tgt := 19) C dX12_isDeed_12 (by decide) h (fun _ h => ?_) (fun _ h => ?_)
  · refine nw_iconst (v := 1) C dX12_isDeed_19 (by decide) ?_
    exact nw_lv (lv' := [(0, .ref (am 112))]) [0] rfl (w_M_isDeed_20 C hr 1 _ h)
  · refine nw_iconst (v := 0) C dX12_isDeed_15 (by decide) ?_
    refine nw_goto (tgt := 20) C dX12_isDeed_16 (by decide) ?_
    exact nw_lv (lv' := [(0, .ref (am 112))]) [0] rfl (w_M_isDeed_20 C hr 0 _ h)
theorem dX12_barred_0 : decode cX12_barred 0 = .ok (.aload_n 0, 1) := by decide +kernel
theorem dX12_barred_1 : decode cX12_barred 1 = .ok (.iload_n 1, 1) := by decide +kernel
theorem dX12_barred_2 : decode cX12_barred 2 = .ok (.invokevirtual 560, 3) := by decide +kernel
theorem dX12_barred_5 : decode cX12_barred 5 = .ok (.ifCond .eq 15, 3) := by decide +kernel
theorem dX12_barred_8 : decode cX12_barred 8 = .ok (.aload_n 0, 1) := by decide +kernel
theorem dX12_barred_9 : decode cX12_barred 9 = .ok (.iload_n 1, 1) := by decide +kernel
theorem dX12_barred_10 : decode cX12_barred 10 = .ok (.invokevirtual 563, 3) := by decide +kernel
theorem dX12_barred_13 : decode cX12_barred 13 = .ok (.ifCond .eq 7, 3) := by decide +kernel
theorem dX12_barred_16 : decode cX12_barred 16 = .ok (.iconst 1, 1) := by decide +kernel
theorem dX12_barred_17 : decode cX12_barred 17 = .ok (.goto 4, 3) := by decide +kernel
theorem dX12_barred_20 : decode cX12_barred 20 = .ok (.iconst 0, 1) := by decide +kernel
theorem dX12_barred_21 : decode cX12_barred 21 = .ok (.ireturn, 1) := by decide +kernel
def f_M_barred (p0 : Int32) (σ : CS) : Option (Int32 × CS) := bnd (f_M_isDeed p0 σ) (fun r2 σ2 => if r2 = 0 then some (0, σ2) else bnd (f_M_isBarred p0 σ2) (fun r10 σ10 => if r10 = 0 then some (0, σ10) else some (1, σ10)))
set_option maxHeartbeats 4000000 in
set_option maxRecDepth 100000 in
theorem c_M_barred {l : Launch} {g : EG} {am : Nat → Nat} {Rr : va_W} {σ σ' : CS} {r : Int32} {p0 : Int32}  (h : f_M_barred p0 σ = some (r, σ')) : CmI l g yX12_barred (.code yX12_barred cX12_barred 2 (some .boolean)) 7 189 am Rr σ [.ref (am 112), .int p0] r σ' := by
  refine Ct.of rfl (by decide) (Nat.le_of_ble_eq_true rfl) ?_
  intro p e s m args below meth c A C hr
  show NMI g p l e s m args below meth c A 7 189 2 am Rr (r, σ') σ [(0, .ref (am 112)), (1, .int p0)] 0 []
  unfold f_M_barred at h
  refine nw_aload_n C dX12_barred_0 rfl 0 rfl ?_
  refine nw_iload_n C dX12_barred_1 rfl 1 rfl ?_
  refine nm_callVI (q0 := 0) (As := [.int p0]) (rest := []) C h (fun _ _ e => c_M_isDeed e) tw_2204 kv_X12_isDeed ml_O rfl ⟨Nat.le_of_ble_eq_true rfl, Nat.le_of_ble_eq_true rfl⟩ rfl dX12_barred_2 rfl (Nat.le_of_ble_eq_true rfl) (fun r2 σ2 h => ?_)
  refine nw_if_eq (tgt := 20) C dX12_barred_5 (by decide) h (fun _ h => ?_) (fun _ h => ?_)
  · refine nw_iconst (v := 0) C dX12_barred_20 (by decide) ?_
    exact nm_zret C hr (Or.inl rfl) dX12_barred_21 h
  · refine nw_aload_n C dX12_barred_8 rfl 0 rfl ?_
    refine nw_iload_n C dX12_barred_9 rfl 1 rfl ?_
    refine nm_callVI (q0 := 0) (As := [.int p0]) (rest := []) C h (fun _ _ e => c_M_isBarred e) tw_2208 kv_X12_isBarred ml_O rfl ⟨Nat.le_of_ble_eq_true rfl, Nat.le_of_ble_eq_true rfl⟩ rfl dX12_barred_10 rfl (Nat.le_of_ble_eq_true rfl) (fun r10 σ10 h => ?_)
    refine nw_if_eq (tgt := 20) C dX12_barred_13 (by decide) h (fun _ h => ?_) (fun _ h => ?_)
    · refine nw_iconst (v := 0) C dX12_barred_20 (by decide) ?_
      exact nm_zret C hr (Or.inl rfl) dX12_barred_21 h
    · refine nw_iconst (v := 1) C dX12_barred_16 (by decide) ?_
      refine nw_goto (tgt := 21) C dX12_barred_17 (by decide) ?_
      exact nm_zret C hr (Or.inr rfl) dX12_barred_21 h
theorem dX12_why_0 : decode cX12_why 0 = .ok (.aload_n 0, 1) := by decide +kernel
theorem dX12_why_1 : decode cX12_why 1 = .ok (.iload_n 1, 1) := by decide +kernel
theorem dX12_why_2 : decode cX12_why 2 = .ok (.invokevirtual 560, 3) := by decide +kernel
theorem dX12_why_5 : decode cX12_why 5 = .ok (.ifCond .ne 5, 3) := by decide +kernel
theorem dX12_why_8 : decode cX12_why 8 = .ok (.iconst 0, 1) := by decide +kernel
theorem dX12_why_9 : decode cX12_why 9 = .ok (.ireturn, 1) := by decide +kernel
theorem dX12_why_10 : decode cX12_why 10 = .ok (.aload_n 0, 1) := by decide +kernel
theorem dX12_why_11 : decode cX12_why 11 = .ok (.iload_n 1, 1) := by decide +kernel
theorem dX12_why_12 : decode cX12_why 12 = .ok (.invokevirtual 551, 3) := by decide +kernel
theorem dX12_why_15 : decode cX12_why 15 = .ok (.aload_n 0, 1) := by decide +kernel
theorem dX12_why_16 : decode cX12_why 16 = .ok (.getfield 534, 3) := by decide +kernel
theorem dX12_why_19 : decode cX12_why 19 = .ok (.ifCond .ge 7, 3) := by decide +kernel
theorem dX12_why_22 : decode cX12_why 22 = .ok (.iconst (-1), 1) := by decide +kernel
theorem dX12_why_23 : decode cX12_why 23 = .ok (.goto 15, 3) := by decide +kernel
theorem dX12_why_26 : decode cX12_why 26 = .ok (.bipush 100, 2) := by decide +kernel
theorem dX12_why_28 : decode cX12_why 28 = .ok (.aload_n 0, 1) := by decide +kernel
theorem dX12_why_29 : decode cX12_why 29 = .ok (.getfield 534, 3) := by decide +kernel
theorem dX12_why_32 : decode cX12_why 32 = .ok (.imul, 1) := by decide +kernel
theorem dX12_why_33 : decode cX12_why 33 = .ok (.aload_n 0, 1) := by decide +kernel
theorem dX12_why_34 : decode cX12_why 34 = .ok (.getfield 537, 3) := by decide +kernel
theorem dX12_why_37 : decode cX12_why 37 = .ok (.iadd, 1) := by decide +kernel
theorem dX12_why_38 : decode cX12_why 38 = .ok (.ireturn, 1) := by decide +kernel
def f_M_why (p0 : Int32) (σ : CS) : Option (Int32 × CS) := bnd (f_M_isDeed p0 σ) (fun r2 σ2 => if r2 = 0 then some (0, σ2) else bnd (f_M_words p0 σ2) (fun _ σ12 => if 0 ≤ (σ12.1 56) then some (((100 * (σ12.1 56)) + (σ12.1 57)), σ12) else some ((-1), σ12)))
set_option maxHeartbeats 4000000 in
set_option maxRecDepth 100000 in
theorem c_M_why {l : Launch} {g : EG} {am : Nat → Nat} {Rr : va_W} {σ σ' : CS} {r : Int32} {p0 : Int32}  (h : f_M_why p0 σ = some (r, σ')) : CmI l g yX12_why (.code yX12_why cX12_why 2 (some .int)) 6 166 am Rr σ [.ref (am 112), .int p0] r σ' := by
  refine Ct.of rfl (by decide) (Nat.le_of_ble_eq_true rfl) ?_
  intro p e s m args below meth c A C hr
  show NMI g p l e s m args below meth c A 6 166 2 am Rr (r, σ') σ [(0, .ref (am 112)), (1, .int p0)] 0 []
  unfold f_M_why at h
  refine nw_aload_n C dX12_why_0 rfl 0 rfl ?_
  refine nw_iload_n C dX12_why_1 rfl 1 rfl ?_
  refine nm_callVI (q0 := 0) (As := [.int p0]) (rest := []) C h (fun _ _ e => c_M_isDeed e) tw_2204 kv_X12_isDeed ml_O rfl ⟨Nat.le_of_ble_eq_true rfl, Nat.le_of_ble_eq_true rfl⟩ rfl dX12_why_2 rfl (Nat.le_of_ble_eq_true rfl) (fun r2 σ2 h => ?_)
  refine nw_if_ne (tgt := 10) C dX12_why_5 (by decide) h (fun _ h => ?_) (fun _ h => ?_)
  · refine nw_iconst (v := 0) C dX12_why_8 (by decide) ?_
    exact nm_iret C hr dX12_why_9 h
  · refine nw_aload_n C dX12_why_10 rfl 0 rfl ?_
    refine nw_iload_n C dX12_why_11 rfl 1 rfl ?_
    refine nm_callVV (q0 := 0) (As := [.int p0]) (rest := []) C h (fun _ _ e => c_M_words e) tw_2212 kv_X12_words ml_O rfl ⟨Nat.le_of_ble_eq_true rfl, Nat.le_of_ble_eq_true rfl⟩ rfl dX12_why_12 rfl (Nat.le_of_ble_eq_true rfl) (fun r12 σ12 h => ?_)
    refine nw_aload_n C dX12_why_15 rfl 0 rfl ?_
    refine nw_get (v := .int (σ12.1 56)) C in_X12 0 ml_O rfl 56 (by decide) tw_1629 rfl mf_56 dX12_why_16 ?_
    refine nw_if_ge (tgt := 26) C dX12_why_19 (by decide) h (fun _ h => ?_) (fun _ h => ?_)
    · refine nw_bipush (v := 100) C dX12_why_26 (by decide) ?_
      refine nw_aload_n C dX12_why_28 rfl 0 rfl ?_
      refine nw_get (v := .int (σ12.1 56)) C in_X12 0 ml_O rfl 56 (by decide) tw_1629 rfl mf_56 dX12_why_29 ?_
      refine nw_imul C dX12_why_32 ?_
      refine nw_aload_n C dX12_why_33 rfl 0 rfl ?_
      refine nw_get (v := .int (σ12.1 57)) C in_X12 0 ml_O rfl 57 (by decide) tw_1630 rfl mf_57 dX12_why_34 ?_
      refine nw_iadd C dX12_why_37 ?_
      exact nm_iret C hr dX12_why_38 h
    · refine nw_iconst (v := (-1)) C dX12_why_22 (by decide) ?_
      refine nw_goto (tgt := 38) C dX12_why_23 (by decide) ?_
      exact nm_iret C hr dX12_why_38 h
theorem dX12_fine_0 : decode cX12_fine 0 = .ok (.aload_n 0, 1) := by decide +kernel
theorem dX12_fine_1 : decode cX12_fine 1 = .ok (.iload_n 1, 1) := by decide +kernel
theorem dX12_fine_2 : decode cX12_fine 2 = .ok (.invokevirtual 560, 3) := by decide +kernel
theorem dX12_fine_5 : decode cX12_fine 5 = .ok (.ifCond .ne 5, 3) := by decide +kernel
theorem dX12_fine_8 : decode cX12_fine 8 = .ok (.iconst 0, 1) := by decide +kernel
theorem dX12_fine_9 : decode cX12_fine 9 = .ok (.ireturn, 1) := by decide +kernel
theorem dX12_fine_10 : decode cX12_fine 10 = .ok (.aload_n 0, 1) := by decide +kernel
theorem dX12_fine_11 : decode cX12_fine 11 = .ok (.iload_n 1, 1) := by decide +kernel
theorem dX12_fine_12 : decode cX12_fine 12 = .ok (.invokevirtual 551, 3) := by decide +kernel
theorem dX12_fine_15 : decode cX12_fine 15 = .ok (.aload_n 0, 1) := by decide +kernel
theorem dX12_fine_16 : decode cX12_fine 16 = .ok (.getfield 544, 3) := by decide +kernel
theorem dX12_fine_19 : decode cX12_fine 19 = .ok (.ireturn, 1) := by decide +kernel
def f_M_fine (p0 : Int32) (σ : CS) : Option (Int32 × CS) := bnd (f_M_isDeed p0 σ) (fun r2 σ2 => if r2 = 0 then some (0, σ2) else bnd (f_M_words p0 σ2) (fun _ σ12 => some ((σ12.1 58), σ12)))
set_option maxHeartbeats 4000000 in
set_option maxRecDepth 100000 in
theorem c_M_fine {l : Launch} {g : EG} {am : Nat → Nat} {Rr : va_W} {σ σ' : CS} {r : Int32} {p0 : Int32}  (h : f_M_fine p0 σ = some (r, σ')) : CmI l g yX12_fine (.code yX12_fine cX12_fine 2 (some .int)) 6 166 am Rr σ [.ref (am 112), .int p0] r σ' := by
  refine Ct.of rfl (by decide) (Nat.le_of_ble_eq_true rfl) ?_
  intro p e s m args below meth c A C hr
  show NMI g p l e s m args below meth c A 6 166 2 am Rr (r, σ') σ [(0, .ref (am 112)), (1, .int p0)] 0 []
  unfold f_M_fine at h
  refine nw_aload_n C dX12_fine_0 rfl 0 rfl ?_
  refine nw_iload_n C dX12_fine_1 rfl 1 rfl ?_
  refine nm_callVI (q0 := 0) (As := [.int p0]) (rest := []) C h (fun _ _ e => c_M_isDeed e) tw_2204 kv_X12_isDeed ml_O rfl ⟨Nat.le_of_ble_eq_true rfl, Nat.le_of_ble_eq_true rfl⟩ rfl dX12_fine_2 rfl (Nat.le_of_ble_eq_true rfl) (fun r2 σ2 h => ?_)
  refine nw_if_ne (tgt := 10) C dX12_fine_5 (by decide) h (fun _ h => ?_) (fun _ h => ?_)
  · refine nw_iconst (v := 0) C dX12_fine_8 (by decide) ?_
    exact nm_iret C hr dX12_fine_9 h
  · refine nw_aload_n C dX12_fine_10 rfl 0 rfl ?_
    refine nw_iload_n C dX12_fine_11 rfl 1 rfl ?_
    refine nm_callVV (q0 := 0) (As := [.int p0]) (rest := []) C h (fun _ _ e => c_M_words e) tw_2212 kv_X12_words ml_O rfl ⟨Nat.le_of_ble_eq_true rfl, Nat.le_of_ble_eq_true rfl⟩ rfl dX12_fine_12 rfl (Nat.le_of_ble_eq_true rfl) (fun r12 σ12 h => ?_)
    refine nw_aload_n C dX12_fine_15 rfl 0 rfl ?_
    refine nw_get (v := .int (σ12.1 58)) C in_X12 0 ml_O rfl 58 (by decide) tw_1631 rfl mf_58 dX12_fine_16 ?_
    exact nm_iret C hr dX12_fine_19 h
theorem dX12_present_0 : decode cX12_present 0 = .ok (.aload_n 0, 1) := by decide +kernel
theorem dX12_present_1 : decode cX12_present 1 = .ok (.iconst 0, 1) := by decide +kernel
theorem dX12_present_2 : decode cX12_present 2 = .ok (.putfield 253, 3) := by decide +kernel
theorem dX12_present_5 : decode cX12_present 5 = .ok (.aload_n 0, 1) := by decide +kernel
theorem dX12_present_6 : decode cX12_present 6 = .ok (.iload_n 1, 1) := by decide +kernel
theorem dX12_present_7 : decode cX12_present 7 = .ok (.iconst 0, 1) := by decide +kernel
theorem dX12_present_8 : decode cX12_present 8 = .ok (.aload_n 0, 1) := by decide +kernel
theorem dX12_present_9 : decode cX12_present 9 = .ok (.getfield 522, 3) := by decide +kernel
theorem dX12_present_12 : decode cX12_present 12 = .ok (.iconst 1, 1) := by decide +kernel
theorem dX12_present_13 : decode cX12_present 13 = .ok (.isub, 1) := by decide +kernel
theorem dX12_present_14 : decode cX12_present 14 = .ok (.invokestatic 257, 3) := by decide +kernel
theorem dX12_present_17 : decode cX12_present 17 = .ok (.ifCond .eq 34, 3) := by decide +kernel
theorem dX12_present_20 : decode cX12_present 20 = .ok (.iload_n 2, 1) := by decide +kernel
theorem dX12_present_21 : decode cX12_present 21 = .ok (.iconst 0, 1) := by decide +kernel
theorem dX12_present_22 : decode cX12_present 22 = .ok (.aload_n 0, 1) := by decide +kernel
theorem dX12_present_23 : decode cX12_present 23 = .ok (.getfield 519, 3) := by decide +kernel
theorem dX12_present_26 : decode cX12_present 26 = .ok (.iconst 1, 1) := by decide +kernel
theorem dX12_present_27 : decode cX12_present 27 = .ok (.isub, 1) := by decide +kernel
theorem dX12_present_28 : decode cX12_present 28 = .ok (.invokestatic 257, 3) := by decide +kernel
theorem dX12_present_31 : decode cX12_present 31 = .ok (.ifCond .eq 20, 3) := by decide +kernel
theorem dX12_present_34 : decode cX12_present 34 = .ok (.aload_n 0, 1) := by decide +kernel
theorem dX12_present_35 : decode cX12_present 35 = .ok (.iload_n 3, 1) := by decide +kernel
theorem dX12_present_36 : decode cX12_present 36 = .ok (.invokevirtual 507, 3) := by decide +kernel
theorem dX12_present_39 : decode cX12_present 39 = .ok (.ifCond .eq 12, 3) := by decide +kernel
theorem dX12_present_42 : decode cX12_present 42 = .ok (.aload_n 0, 1) := by decide +kernel
theorem dX12_present_43 : decode cX12_present 43 = .ok (.iload 4, 2) := by decide +kernel
theorem dX12_present_45 : decode cX12_present 45 = .ok (.invokevirtual 507, 3) := by decide +kernel
theorem dX12_present_48 : decode cX12_present 48 = .ok (.ifCond .ne 7, 3) := by decide +kernel
theorem dX12_present_51 : decode cX12_present 51 = .ok (.iconst 1, 1) := by decide +kernel
theorem dX12_present_52 : decode cX12_present 52 = .ok (.goto 4, 3) := by decide +kernel
theorem dX12_present_55 : decode cX12_present 55 = .ok (.iconst 0, 1) := by decide +kernel
theorem dX12_present_56 : decode cX12_present 56 = .ok (.iconst 1, 1) := by decide +kernel
theorem dX12_present_57 : decode cX12_present 57 = .ok (.invokevirtual 265, 3) := by decide +kernel
theorem dX12_present_60 : decode cX12_present 60 = .ok (.ifCond .eq 5, 3) := by decide +kernel
theorem dX12_present_63 : decode cX12_present 63 = .ok (.iconst 0, 1) := by decide +kernel
theorem dX12_present_64 : decode cX12_present 64 = .ok (.ireturn, 1) := by decide +kernel
theorem dX12_present_65 : decode cX12_present 65 = .ok (.aload_n 0, 1) := by decide +kernel
theorem dX12_present_66 : decode cX12_present 66 = .ok (.getfield 566, 3) := by decide +kernel
theorem dX12_present_69 : decode cX12_present 69 = .ok (.bipush 40, 2) := by decide +kernel
theorem dX12_present_71 : decode cX12_present 71 = .ok (.if_icmp .ne 5, 3) := by decide +kernel
theorem dX12_present_74 : decode cX12_present 74 = .ok (.iconst (-1), 1) := by decide +kernel
theorem dX12_present_75 : decode cX12_present 75 = .ok (.ireturn, 1) := by decide +kernel
theorem dX12_present_76 : decode cX12_present 76 = .ok (.iconst 0, 1) := by decide +kernel
theorem dX12_present_77 : decode cX12_present 77 = .ok (.istore 5, 2) := by decide +kernel
theorem dX12_present_79 : decode cX12_present 79 = .ok (.iload 5, 2) := by decide +kernel
theorem dX12_present_81 : decode cX12_present 81 = .ok (.aload_n 0, 1) := by decide +kernel
theorem dX12_present_82 : decode cX12_present 82 = .ok (.getfield 566, 3) := by decide +kernel
theorem dX12_present_85 : decode cX12_present 85 = .ok (.if_icmp .ge 23, 3) := by decide +kernel
theorem dX12_present_88 : decode cX12_present 88 = .ok (.aload_n 0, 1) := by decide +kernel
theorem dX12_present_89 : decode cX12_present 89 = .ok (.getfield 121, 3) := by decide +kernel
theorem dX12_present_92 : decode cX12_present 92 = .ok (.iload 5, 2) := by decide +kernel
theorem dX12_present_94 : decode cX12_present 94 = .ok (.iaload, 1) := by decide +kernel
theorem dX12_present_95 : decode cX12_present 95 = .ok (.iload_n 1, 1) := by decide +kernel
theorem dX12_present_96 : decode cX12_present 96 = .ok (.if_icmp .ne 6, 3) := by decide +kernel
theorem dX12_present_99 : decode cX12_present 99 = .ok (.bipush (-2), 2) := by decide +kernel
theorem dX12_present_101 : decode cX12_present 101 = .ok (.ireturn, 1) := by decide +kernel
theorem dX12_present_102 : decode cX12_present 102 = .ok (.iinc 5 1, 3) := by decide +kernel
theorem dX12_present_105 : decode cX12_present 105 = .ok (.goto (-26), 3) := by decide +kernel
theorem dX12_present_108 : decode cX12_present 108 = .ok (.aload_n 0, 1) := by decide +kernel
theorem dX12_present_109 : decode cX12_present 109 = .ok (.iload_n 1, 1) := by decide +kernel
theorem dX12_present_110 : decode cX12_present 110 = .ok (.invokevirtual 563, 3) := by decide +kernel
theorem dX12_present_113 : decode cX12_present 113 = .ok (.ifCond .ne 6, 3) := by decide +kernel
theorem dX12_present_116 : decode cX12_present 116 = .ok (.bipush (-3), 2) := by decide +kernel
theorem dX12_present_118 : decode cX12_present 118 = .ok (.ireturn, 1) := by decide +kernel
theorem dX12_present_119 : decode cX12_present 119 = .ok (.aload_n 0, 1) := by decide +kernel
theorem dX12_present_120 : decode cX12_present 120 = .ok (.iload_n 3, 1) := by decide +kernel
theorem dX12_present_121 : decode cX12_present 121 = .ok (.invokevirtual 510, 3) := by decide +kernel
theorem dX12_present_124 : decode cX12_present 124 = .ok (.ifCond .ne 39, 3) := by decide +kernel
theorem dX12_present_127 : decode cX12_present 127 = .ok (.aload_n 0, 1) := by decide +kernel
theorem dX12_present_128 : decode cX12_present 128 = .ok (.iload 4, 2) := by decide +kernel
theorem dX12_present_130 : decode cX12_present 130 = .ok (.invokevirtual 510, 3) := by decide +kernel
theorem dX12_present_133 : decode cX12_present 133 = .ok (.ifCond .ne 30, 3) := by decide +kernel
theorem dX12_present_136 : decode cX12_present 136 = .ok (.iload_n 3, 1) := by decide +kernel
theorem dX12_present_137 : decode cX12_present 137 = .ok (.aload_n 0, 1) := by decide +kernel
theorem dX12_present_138 : decode cX12_present 138 = .ok (.getfield 100, 3) := by decide +kernel
theorem dX12_present_141 : decode cX12_present 141 = .ok (.iload_n 1, 1) := by decide +kernel
theorem dX12_present_142 : decode cX12_present 142 = .ok (.iaload, 1) := by decide +kernel
theorem dX12_present_143 : decode cX12_present 143 = .ok (.if_icmp .eq 20, 3) := by decide +kernel
theorem dX12_present_146 : decode cX12_present 146 = .ok (.iload 4, 2) := by decide +kernel
theorem dX12_present_148 : decode cX12_present 148 = .ok (.aload_n 0, 1) := by decide +kernel
theorem dX12_present_149 : decode cX12_present 149 = .ok (.getfield 100, 3) := by decide +kernel
theorem dX12_present_152 : decode cX12_present 152 = .ok (.iload_n 1, 1) := by decide +kernel
theorem dX12_present_153 : decode cX12_present 153 = .ok (.iaload, 1) := by decide +kernel
theorem dX12_present_154 : decode cX12_present 154 = .ok (.if_icmp .eq 9, 3) := by decide +kernel
theorem dX12_present_157 : decode cX12_present 157 = .ok (.iload_n 3, 1) := by decide +kernel
theorem dX12_present_158 : decode cX12_present 158 = .ok (.iload 4, 2) := by decide +kernel
theorem dX12_present_160 : decode cX12_present 160 = .ok (.if_icmp .ne 6, 3) := by decide +kernel
theorem dX12_present_163 : decode cX12_present 163 = .ok (.bipush (-4), 2) := by decide +kernel
theorem dX12_present_165 : decode cX12_present 165 = .ok (.ireturn, 1) := by decide +kernel
theorem dX12_present_166 : decode cX12_present 166 = .ok (.aload_n 0, 1) := by decide +kernel
theorem dX12_present_167 : decode cX12_present 167 = .ok (.getfield 121, 3) := by decide +kernel
theorem dX12_present_170 : decode cX12_present 170 = .ok (.aload_n 0, 1) := by decide +kernel
theorem dX12_present_171 : decode cX12_present 171 = .ok (.getfield 566, 3) := by decide +kernel
theorem dX12_present_174 : decode cX12_present 174 = .ok (.iload_n 1, 1) := by decide +kernel
theorem dX12_present_175 : decode cX12_present 175 = .ok (.iastore, 1) := by decide +kernel
theorem dX12_present_176 : decode cX12_present 176 = .ok (.aload_n 0, 1) := by decide +kernel
theorem dX12_present_177 : decode cX12_present 177 = .ok (.getfield 124, 3) := by decide +kernel
theorem dX12_present_180 : decode cX12_present 180 = .ok (.aload_n 0, 1) := by decide +kernel
theorem dX12_present_181 : decode cX12_present 181 = .ok (.getfield 566, 3) := by decide +kernel
theorem dX12_present_184 : decode cX12_present 184 = .ok (.iload_n 2, 1) := by decide +kernel
theorem dX12_present_185 : decode cX12_present 185 = .ok (.iastore, 1) := by decide +kernel
theorem dX12_present_186 : decode cX12_present 186 = .ok (.aload_n 0, 1) := by decide +kernel
theorem dX12_present_187 : decode cX12_present 187 = .ok (.getfield 127, 3) := by decide +kernel
theorem dX12_present_190 : decode cX12_present 190 = .ok (.iconst 2, 1) := by decide +kernel
theorem dX12_present_191 : decode cX12_present 191 = .ok (.aload_n 0, 1) := by decide +kernel
theorem dX12_present_192 : decode cX12_present 192 = .ok (.getfield 566, 3) := by decide +kernel
theorem dX12_present_195 : decode cX12_present 195 = .ok (.imul, 1) := by decide +kernel
theorem dX12_present_196 : decode cX12_present 196 = .ok (.iload_n 3, 1) := by decide +kernel
theorem dX12_present_197 : decode cX12_present 197 = .ok (.iastore, 1) := by decide +kernel
theorem dX12_present_198 : decode cX12_present 198 = .ok (.aload_n 0, 1) := by decide +kernel
theorem dX12_present_199 : decode cX12_present 199 = .ok (.getfield 127, 3) := by decide +kernel
theorem dX12_present_202 : decode cX12_present 202 = .ok (.iconst 2, 1) := by decide +kernel
theorem dX12_present_203 : decode cX12_present 203 = .ok (.aload_n 0, 1) := by decide +kernel
theorem dX12_present_204 : decode cX12_present 204 = .ok (.getfield 566, 3) := by decide +kernel
theorem dX12_present_207 : decode cX12_present 207 = .ok (.imul, 1) := by decide +kernel
theorem dX12_present_208 : decode cX12_present 208 = .ok (.iconst 1, 1) := by decide +kernel
theorem dX12_present_209 : decode cX12_present 209 = .ok (.iadd, 1) := by decide +kernel
theorem dX12_present_210 : decode cX12_present 210 = .ok (.iload 4, 2) := by decide +kernel
theorem dX12_present_212 : decode cX12_present 212 = .ok (.iastore, 1) := by decide +kernel
theorem dX12_present_213 : decode cX12_present 213 = .ok (.aload_n 0, 1) := by decide +kernel
theorem dX12_present_214 : decode cX12_present 214 = .ok (.getfield 130, 3) := by decide +kernel
theorem dX12_present_217 : decode cX12_present 217 = .ok (.aload_n 0, 1) := by decide +kernel
theorem dX12_present_218 : decode cX12_present 218 = .ok (.getfield 566, 3) := by decide +kernel
theorem dX12_present_221 : decode cX12_present 221 = .ok (.aload_n 0, 1) := by decide +kernel
theorem dX12_present_222 : decode cX12_present 222 = .ok (.getfield 100, 3) := by decide +kernel
theorem dX12_present_225 : decode cX12_present 225 = .ok (.iload_n 1, 1) := by decide +kernel
theorem dX12_present_226 : decode cX12_present 226 = .ok (.iaload, 1) := by decide +kernel
theorem dX12_present_227 : decode cX12_present 227 = .ok (.iastore, 1) := by decide +kernel
theorem dX12_present_228 : decode cX12_present 228 = .ok (.aload_n 0, 1) := by decide +kernel
theorem dX12_present_229 : decode cX12_present 229 = .ok (.getfield 136, 3) := by decide +kernel
theorem dX12_present_232 : decode cX12_present 232 = .ok (.aload_n 0, 1) := by decide +kernel
theorem dX12_present_233 : decode cX12_present 233 = .ok (.getfield 566, 3) := by decide +kernel
theorem dX12_present_236 : decode cX12_present 236 = .ok (.aload_n 0, 1) := by decide +kernel
theorem dX12_present_237 : decode cX12_present 237 = .ok (.getfield 513, 3) := by decide +kernel
theorem dX12_present_240 : decode cX12_present 240 = .ok (.iastore, 1) := by decide +kernel
theorem dX12_present_241 : decode cX12_present 241 = .ok (.aload_n 0, 1) := by decide +kernel
theorem dX12_present_242 : decode cX12_present 242 = .ok (.dup, 1) := by decide +kernel
theorem dX12_present_243 : decode cX12_present 243 = .ok (.getfield 566, 3) := by decide +kernel
theorem dX12_present_246 : decode cX12_present 246 = .ok (.iconst 1, 1) := by decide +kernel
theorem dX12_present_247 : decode cX12_present 247 = .ok (.iadd, 1) := by decide +kernel
theorem dX12_present_248 : decode cX12_present 248 = .ok (.putfield 566, 3) := by decide +kernel
theorem dX12_present_251 : decode cX12_present 251 = .ok (.aload_n 0, 1) := by decide +kernel
theorem dX12_present_252 : decode cX12_present 252 = .ok (.getfield 566, 3) := by decide +kernel
theorem dX12_present_255 : decode cX12_present 255 = .ok (.iconst 1, 1) := by decide +kernel
theorem dX12_present_256 : decode cX12_present 256 = .ok (.isub, 1) := by decide +kernel
theorem dX12_present_257 : decode cX12_present 257 = .ok (.ireturn, 1) := by decide +kernel
def L_M_present_79 (k108 : Int32 → Int32 → Int32 → Int32 → CS → Option (Int32 × CS)) (x1 : Int32) (x2 : Int32) (x3 : Int32) (x4 : Int32) : Nat → Int32 → CS → Option (Int32 × CS)
  | 0, _, _ => none
  | n + 1, x5, σ => if (σ.1 60) ≤ x5 then k108 x1 x2 x3 x4 σ else gix x5 40 (if (rd σ 61 x5) = x1 then some ((-2), σ) else (L_M_present_79 k108 x1 x2 x3 x4 n) (x5 + 1) σ)
set_option maxHeartbeats 4000000 in
set_option maxRecDepth 100000 in
theorem w_M_present_79 (C : Cx g p s m args meth c A 6 cX12_present yX12_present.cls) (hr : meth.sig.returnType = (some .int))  {res : Int32 × CS}  (x1 : Int32) (x2 : Int32) (x3 : Int32) (x4 : Int32) {k108 : Int32 → Int32 → Int32 → Int32 → CS → Option (Int32 × CS)} (hk108 : ∀ (x1 : Int32) (x2 : Int32) (x3 : Int32) (x4 : Int32) (σ : CS), k108 x1 x2 x3 x4 σ = some res → NMI g p l e s m args below meth c A 7 189 6 am Rr res σ [(0, .ref (am 112)), (1, .int x1), (2, .int x2), (3, .int x3), (4, .int x4)] 108 []) : ∀ (n : Nat) (x5 : Int32) (σ : CS), L_M_present_79 k108 x1 x2 x3 x4 n x5 σ = some res → NMI g p l e s m args below meth c A 7 189 6 am Rr res σ [(0, .ref (am 112)), (1, .int x1), (2, .int x2), (3, .int x3), (4, .int x4), (5, .int x5)] 79 [] := by
  intro n
  induction n with
  | zero =>
    intro x5 σ h
    exact absurd (show (none : Option (Int32 × CS)) = some res from h) (by intro h9; cases h9)
  | succ n ih =>
    intro x5 σ h
    rw [L_M_present_79] at h
    refine nw_iload C dX12_present_79 5 rfl ?_
    refine nw_aload_n C dX12_present_81 rfl 0 rfl ?_
    refine nw_get (v := .int (σ.1 60)) C in_X12 0 ml_O rfl 60 (by decide) tw_1633 rfl mf_60 dX12_present_82 ?_
    refine nw_icmp_ge (tgt := 108) C dX12_present_85 (by decide) h (fun _ h => ?_) (fun _ h => ?_)
    · exact nw_lv (lv' := [(0, .ref (am 112)), (1, .int x1), (2, .int x2), (3, .int x3), (4, .int x4)]) [0, 1, 2, 3, 4] rfl (hk108 x1 x2 x3 x4 _ h)
    · refine nw_aload_n C dX12_present_88 rfl 0 rfl ?_
      refine nw_get (v := .ref (am 61)) C in_X12 0 ml_O rfl 61 (by decide) tw_1634 rfl mf_61 dX12_present_89 ?_
      refine nw_iload C dX12_present_92 5 rfl ?_
      refine nw_iald C 36 ml_61 dX12_present_94 h (fun h => ?_)
      refine nw_iload_n C dX12_present_95 rfl 1 rfl ?_
      refine nw_icmp_ne (tgt := 102) C dX12_present_96 (by decide) h (fun _ h => ?_) (fun _ h => ?_)
      · refine nw_bipush (v := (-2)) C dX12_present_99 (by decide) ?_
        exact nm_iret C hr dX12_present_101 h
      · refine nw_iinc (lv' := [(5, .int (x5 + 1)), (0, .ref (am 112)), (1, .int x1), (2, .int x2), (3, .int x3), (4, .int x4)]) C (x5 + 1) dX12_present_102 5 rfl rfl (by decide) rfl ?_
        refine nw_goto (tgt := 79) C dX12_present_105 (by decide) ?_
        exact nw_lv (lv' := [(0, .ref (am 112)), (1, .int x1), (2, .int x2), (3, .int x3), (4, .int x4), (5, .int (x5 + 1))]) [1, 2, 3, 4, 5, 0] rfl (ih (x5 + 1) _ h)
def B_M_present_108   (x1 : Int32) (x2 : Int32) (x3 : Int32) (x4 : Int32) (σ : CS) : Option (Int32 × CS) := bnd (f_M_isBarred x1 σ) (fun r110 σ110 => if r110 = 0 then some ((-3), σ110) else bnd (f_M_isDead x3 σ110) (fun r121 σ121 => if r121 = 0 then bnd (f_M_isDead x4 σ121) (fun r130 σ130 => if r130 = 0 then gix x1 60 (if x3 = (rd σ130 49 x1) then some ((-4), σ130) else gix x1 60 (if x4 = (rd σ130 49 x1) then some ((-4), σ130) else if x3 = x4 then some ((-4), σ130) else gix (σ130.1 60) 40 (gix (σ130.1 60) 40 (gix (2 * (σ130.1 60)) 80 (gix ((2 * (σ130.1 60)) + 1) 80 (gix x1 60 (gix (σ130.1 60) 40 (gix (σ130.1 60) 40 (some ((((σ130.1 60) + 1) - 1), (sF (wr (wr (wr (wr (wr (wr σ130 61 (σ130.1 60) x1) 62 (σ130.1 60) x2) 63 (2 * (σ130.1 60)) x3) 63 ((2 * (σ130.1 60)) + 1) x4) 64 (σ130.1 60) (rd σ130 49 x1)) 66 (σ130.1 60) (σ130.1 1)) 60 ((σ130.1 60) + 1)))))))))))) else some ((-4), σ130)) else some ((-4), σ121)))
set_option maxHeartbeats 4000000 in
set_option maxRecDepth 100000 in
theorem w_M_present_108 (C : Cx g p s m args meth c A 6 cX12_present yX12_present.cls) (hr : meth.sig.returnType = (some .int))  {res : Int32 × CS}   (x1 : Int32) (x2 : Int32) (x3 : Int32) (x4 : Int32)  (σ : CS) (h : B_M_present_108 x1 x2 x3 x4 σ = some res) : NMI g p l e s m args below meth c A 7 189 6 am Rr res σ [(0, .ref (am 112)), (1, .int x1), (2, .int x2), (3, .int x3), (4, .int x4)] 108 [] := by
  unfold B_M_present_108 at h
  refine nw_aload_n C dX12_present_108 rfl 0 rfl ?_
  refine nw_iload_n C dX12_present_109 rfl 1 rfl ?_
  refine nm_callVI (q0 := 0) (As := [.int x1]) (rest := []) C h (fun _ _ e => c_M_isBarred e) tw_2208 kv_X12_isBarred ml_O rfl ⟨Nat.le_of_ble_eq_true rfl, Nat.le_of_ble_eq_true rfl⟩ rfl dX12_present_110 rfl (Nat.le_of_ble_eq_true rfl) (fun r110 σ110 h => ?_)
  refine nw_if_ne (tgt := 119) C dX12_present_113 (by decide) h (fun _ h => ?_) (fun _ h => ?_)
  · refine nw_bipush (v := (-3)) C dX12_present_116 (by decide) ?_
    exact nm_iret C hr dX12_present_118 h
  · refine nw_aload_n C dX12_present_119 rfl 0 rfl ?_
    refine nw_iload_n C dX12_present_120 rfl 3 rfl ?_
    refine nm_callVI (q0 := 0) (As := [.int x3]) (rest := []) C h (fun _ _ e => c_M_isDead e) tw_2180 kv_X12_isDead ml_O rfl ⟨Nat.le_of_ble_eq_true rfl, Nat.le_of_ble_eq_true rfl⟩ rfl dX12_present_121 rfl (Nat.le_of_ble_eq_true rfl) (fun r121 σ121 h => ?_)
    refine nw_if_ne (tgt := 163) C dX12_present_124 (by decide) h (fun _ h => ?_) (fun _ h => ?_)
    · refine nw_aload_n C dX12_present_127 rfl 0 rfl ?_
      refine nw_iload C dX12_present_128 4 rfl ?_
      refine nm_callVI (q0 := 0) (As := [.int x4]) (rest := []) C h (fun _ _ e => c_M_isDead e) tw_2180 kv_X12_isDead ml_O rfl ⟨Nat.le_of_ble_eq_true rfl, Nat.le_of_ble_eq_true rfl⟩ rfl dX12_present_130 rfl (Nat.le_of_ble_eq_true rfl) (fun r130 σ130 h => ?_)
      refine nw_if_ne (tgt := 163) C dX12_present_133 (by decide) h (fun _ h => ?_) (fun _ h => ?_)
      · refine nw_iload_n C dX12_present_136 rfl 3 rfl ?_
        refine nw_aload_n C dX12_present_137 rfl 0 rfl ?_
        refine nw_get (v := .ref (am 49)) C in_X12 0 ml_O rfl 49 (by decide) tw_1622 rfl mf_49 dX12_present_138 ?_
        refine nw_iload_n C dX12_present_141 rfl 1 rfl ?_
        refine nw_iald C 29 ml_49 dX12_present_142 h (fun h => ?_)
        refine nw_icmp_eq (tgt := 163) C dX12_present_143 (by decide) h (fun _ h => ?_) (fun _ h => ?_)
        · refine nw_bipush (v := (-4)) C dX12_present_163 (by decide) ?_
          exact nm_iret C hr dX12_present_165 h
        · refine nw_iload C dX12_present_146 4 rfl ?_
          refine nw_aload_n C dX12_present_148 rfl 0 rfl ?_
          refine nw_get (v := .ref (am 49)) C in_X12 0 ml_O rfl 49 (by decide) tw_1622 rfl mf_49 dX12_present_149 ?_
          refine nw_iload_n C dX12_present_152 rfl 1 rfl ?_
          refine nw_iald C 29 ml_49 dX12_present_153 h (fun h => ?_)
          refine nw_icmp_eq (tgt := 163) C dX12_present_154 (by decide) h (fun _ h => ?_) (fun _ h => ?_)
          · refine nw_bipush (v := (-4)) C dX12_present_163 (by decide) ?_
            exact nm_iret C hr dX12_present_165 h
          · refine nw_iload_n C dX12_present_157 rfl 3 rfl ?_
            refine nw_iload C dX12_present_158 4 rfl ?_
            refine nw_icmp_ne (tgt := 166) C dX12_present_160 (by decide) h (fun _ h => ?_) (fun _ h => ?_)
            · refine nw_bipush (v := (-4)) C dX12_present_163 (by decide) ?_
              exact nm_iret C hr dX12_present_165 h
            · refine nw_aload_n C dX12_present_166 rfl 0 rfl ?_
              refine nw_get (v := .ref (am 61)) C in_X12 0 ml_O rfl 61 (by decide) tw_1634 rfl mf_61 dX12_present_167 ?_
              refine nw_aload_n C dX12_present_170 rfl 0 rfl ?_
              refine nw_get (v := .int (σ130.1 60)) C in_X12 0 ml_O rfl 60 (by decide) tw_1633 rfl mf_60 dX12_present_171 ?_
              refine nw_iload_n C dX12_present_174 rfl 1 rfl ?_
              refine nw_iast C 36 ml_61 dX12_present_175 h ms_61 (fun h => ?_)
              refine nw_aload_n C dX12_present_176 rfl 0 rfl ?_
              refine nw_get (v := .ref (am 62)) C in_X12 0 ml_O rfl 62 (by decide) tw_1635 rfl mf_62 dX12_present_177 ?_
              refine nw_aload_n C dX12_present_180 rfl 0 rfl ?_
              refine nw_get (v := .int (σ130.1 60)) C in_X12 0 ml_O rfl 60 (by decide) tw_1633 rfl rfl dX12_present_181 ?_
              refine nw_iload_n C dX12_present_184 rfl 2 rfl ?_
              refine nw_iast C 37 ml_62 dX12_present_185 h ms_62 (fun h => ?_)
              refine nw_aload_n C dX12_present_186 rfl 0 rfl ?_
              refine nw_get (v := .ref (am 63)) C in_X12 0 ml_O rfl 63 (by decide) tw_1636 rfl mf_63 dX12_present_187 ?_
              refine nw_iconst (v := 2) C dX12_present_190 (by decide) ?_
              refine nw_aload_n C dX12_present_191 rfl 0 rfl ?_
              refine nw_get (v := .int (σ130.1 60)) C in_X12 0 ml_O rfl 60 (by decide) tw_1633 rfl rfl dX12_present_192 ?_
              refine nw_imul C dX12_present_195 ?_
              refine nw_iload_n C dX12_present_196 rfl 3 rfl ?_
              refine nw_iast C 38 ml_63 dX12_present_197 h ms_63 (fun h => ?_)
              refine nw_aload_n C dX12_present_198 rfl 0 rfl ?_
              refine nw_get (v := .ref (am 63)) C in_X12 0 ml_O rfl 63 (by decide) tw_1636 rfl mf_63 dX12_present_199 ?_
              refine nw_iconst (v := 2) C dX12_present_202 (by decide) ?_
              refine nw_aload_n C dX12_present_203 rfl 0 rfl ?_
              refine nw_get (v := .int (σ130.1 60)) C in_X12 0 ml_O rfl 60 (by decide) tw_1633 rfl rfl dX12_present_204 ?_
              refine nw_imul C dX12_present_207 ?_
              refine nw_iconst (v := 1) C dX12_present_208 (by decide) ?_
              refine nw_iadd C dX12_present_209 ?_
              refine nw_iload C dX12_present_210 4 rfl ?_
              refine nw_iast C 38 ml_63 dX12_present_212 h ms_63 (fun h => ?_)
              refine nw_aload_n C dX12_present_213 rfl 0 rfl ?_
              refine nw_get (v := .ref (am 64)) C in_X12 0 ml_O rfl 64 (by decide) tw_1637 rfl mf_64 dX12_present_214 ?_
              refine nw_aload_n C dX12_present_217 rfl 0 rfl ?_
              refine nw_get (v := .int (σ130.1 60)) C in_X12 0 ml_O rfl 60 (by decide) tw_1633 rfl rfl dX12_present_218 ?_
              refine nw_aload_n C dX12_present_221 rfl 0 rfl ?_
              refine nw_get (v := .ref (am 49)) C in_X12 0 ml_O rfl 49 (by decide) tw_1622 rfl mf_49 dX12_present_222 ?_
              refine nw_iload_n C dX12_present_225 rfl 1 rfl ?_
              refine nw_iald C 29 ml_49 dX12_present_226 h (fun h => ?_)
              refine nw_st (st' := [.int (rd σ130 49 x1), .int (σ130.1 60), .ref (am 64)]) rfl ?_
              refine nw_iast C 39 ml_64 dX12_present_227 h ms_64 (fun h => ?_)
              refine nw_aload_n C dX12_present_228 rfl 0 rfl ?_
              refine nw_get (v := .ref (am 66)) C in_X12 0 ml_O rfl 66 (by decide) tw_1639 rfl mf_66 dX12_present_229 ?_
              refine nw_aload_n C dX12_present_232 rfl 0 rfl ?_
              refine nw_get (v := .int (σ130.1 60)) C in_X12 0 ml_O rfl 60 (by decide) tw_1633 rfl rfl dX12_present_233 ?_
              refine nw_aload_n C dX12_present_236 rfl 0 rfl ?_
              refine nw_get (v := .int (σ130.1 1)) C in_X12 0 ml_O rfl 1 (by decide) tw_1574 rfl rfl dX12_present_237 ?_
              refine nw_iast C 41 ml_66 dX12_present_240 h ms_66 (fun h => ?_)
              refine nw_aload_n C dX12_present_241 rfl 0 rfl ?_
              refine nw_dup C dX12_present_242 rfl ?_
              refine nw_get (v := .int (σ130.1 60)) C in_X12 0 ml_O rfl 60 (by decide) tw_1633 rfl rfl dX12_present_243 ?_
              refine nw_iconst (v := 1) C dX12_present_246 (by decide) ?_
              refine nw_iadd C dX12_present_247 ?_
              refine nw_put (ty := .int) C in_X12 0 ml_O rfl 60 (by decide) tyX12 tyX12_ok nmX12 tw_1633 rfl rfl (by decide +kernel) rfl rfl (Nat.le_of_ble_eq_true rfl) dX12_present_248 ms_60 ?_
              refine nw_aload_n C dX12_present_251 rfl 0 rfl ?_
              refine nw_get (v := .int ((σ130.1 60) + 1)) C in_X12 0 ml_O rfl 60 (by decide) tw_1633 rfl rfl dX12_present_252 ?_
              refine nw_iconst (v := 1) C dX12_present_255 (by decide) ?_
              refine nw_isub C dX12_present_256 ?_
              exact nm_iret C hr dX12_present_257 h
      · refine nw_bipush (v := (-4)) C dX12_present_163 (by decide) ?_
        exact nm_iret C hr dX12_present_165 h
    · refine nw_bipush (v := (-4)) C dX12_present_163 (by decide) ?_
      exact nm_iret C hr dX12_present_165 h
def B_M_present_56   (x1 : Int32) (x2 : Int32) (x3 : Int32) (x4 : Int32) (z1 : Int32) (σ : CS) : Option (Int32 × CS) := bnd (f_M_bad z1 1 σ) (fun r57 σ57 => if r57 = 0 then if (σ57.1 60) = 40 then some ((-1), σ57) else L_M_present_79 (B_M_present_108) x1 x2 x3 x4 FU 0 σ57 else some (0, σ57))
set_option maxHeartbeats 4000000 in
set_option maxRecDepth 100000 in
theorem w_M_present_56 (C : Cx g p s m args meth c A 6 cX12_present yX12_present.cls) (hr : meth.sig.returnType = (some .int))  {res : Int32 × CS}   (x1 : Int32) (x2 : Int32) (x3 : Int32) (x4 : Int32) (z1 : Int32)  (σ : CS) (h : B_M_present_56 x1 x2 x3 x4 z1 σ = some res) : NMI g p l e s m args below meth c A 7 189 6 am Rr res σ [(0, .ref (am 112)), (1, .int x1), (2, .int x2), (3, .int x3), (4, .int x4)] 56 [.int z1, .ref (am 112)] := by
  unfold B_M_present_56 at h
  refine nw_iconst (v := 1) C dX12_present_56 (by decide) ?_
  refine nm_callVI (q0 := 0) (As := [.int z1, .int 1]) (rest := []) C h (fun _ _ e => c_M_bad e) tw_1924 kv_X12_bad ml_O rfl ⟨Nat.le_of_ble_eq_true rfl, Nat.le_of_ble_eq_true rfl⟩ rfl dX12_present_57 rfl (Nat.le_of_ble_eq_true rfl) (fun r57 σ57 h => ?_)
  refine nw_if_eq (tgt := 65) C dX12_present_60 (by decide) h (fun _ h => ?_) (fun _ h => ?_)
  · refine nw_aload_n C dX12_present_65 rfl 0 rfl ?_
    refine nw_get (v := .int (σ57.1 60)) C in_X12 0 ml_O rfl 60 (by decide) tw_1633 rfl mf_60 dX12_present_66 ?_
    refine nw_bipush (v := 40) C dX12_present_69 (by decide) ?_
    refine nw_icmp_ne (tgt := 76) C dX12_present_71 (by decide) h (fun _ h => ?_) (fun _ h => ?_)
    · refine nw_iconst (v := (-1)) C dX12_present_74 (by decide) ?_
      exact nm_iret C hr dX12_present_75 h
    · refine nw_iconst (v := 0) C dX12_present_76 (by decide) ?_
      refine nw_istore (lv' := [(5, .int 0), (0, .ref (am 112)), (1, .int x1), (2, .int x2), (3, .int x3), (4, .int x4)]) C dX12_present_77 (by decide) rfl ?_
      exact nw_lv (lv' := [(0, .ref (am 112)), (1, .int x1), (2, .int x2), (3, .int x3), (4, .int x4), (5, .int 0)]) [1, 2, 3, 4, 5, 0] rfl (w_M_present_79 C hr x1 x2 x3 x4 (fun x1_ x2_ x3_ x4_ σ_ h_ => w_M_present_108 C hr x1_ x2_ x3_ x4_ σ_ h_) FU 0 _ h)
  · refine nw_iconst (v := 0) C dX12_present_63 (by decide) ?_
    exact nm_iret C hr dX12_present_64 h
def f_M_present (p0 : Int32) (p1 : Int32) (p2 : Int32) (p3 : Int32) (σ : CS) : Option (Int32 × CS) := bnd (f_M_in p0 0 ((σ.1 48) - 1) (sF σ 0 0)) (fun r14 σ14 => if r14 = 0 then B_M_present_56 p0 p1 p2 p3 1 σ14 else bnd (f_M_in p1 0 ((σ14.1 44) - 1) σ14) (fun r28 σ28 => if r28 = 0 then B_M_present_56 p0 p1 p2 p3 1 σ28 else bnd (f_M_isPerson p2 σ28) (fun r36 σ36 => if r36 = 0 then B_M_present_56 p0 p1 p2 p3 1 σ36 else bnd (f_M_isPerson p3 σ36) (fun r45 σ45 => if r45 = 0 then B_M_present_56 p0 p1 p2 p3 1 σ45 else B_M_present_56 p0 p1 p2 p3 0 σ45))))
set_option maxHeartbeats 4000000 in
set_option maxRecDepth 100000 in
theorem c_M_present {l : Launch} {g : EG} {am : Nat → Nat} {Rr : va_W} {σ σ' : CS} {r : Int32} {p0 : Int32} {p1 : Int32} {p2 : Int32} {p3 : Int32}  (h : f_M_present p0 p1 p2 p3 σ = some (r, σ')) : CmI l g yX12_present (.code yX12_present cX12_present 6 (some .int)) 7 189 am Rr σ [.ref (am 112), .int p0, .int p1, .int p2, .int p3] r σ' := by
  refine Ct.of rfl (by decide) (Nat.le_of_ble_eq_true rfl) ?_
  intro p e s m args below meth c A C hr
  show NMI g p l e s m args below meth c A 7 189 6 am Rr (r, σ') σ [(0, .ref (am 112)), (1, .int p0), (2, .int p1), (3, .int p2), (4, .int p3)] 0 []
  unfold f_M_present at h
  refine nw_aload_n C dX12_present_0 rfl 0 rfl ?_
  refine nw_iconst (v := 0) C dX12_present_1 (by decide) ?_
  refine nw_put (ty := .int) C in_X12 0 ml_O rfl 0 (by decide) tyX12 tyX12_ok nmX12 tw_1573 rfl rfl (by decide +kernel) rfl rfl (Nat.le_of_ble_eq_true rfl) dX12_present_2 ms_0 ?_
  refine nw_aload_n C dX12_present_5 rfl 0 rfl ?_
  refine nw_iload_n C dX12_present_6 rfl 1 rfl ?_
  refine nw_iconst (v := 0) C dX12_present_7 (by decide) ?_
  refine nw_aload_n C dX12_present_8 rfl 0 rfl ?_
  refine nw_get (v := .int (σ.1 48)) C in_X12 0 ml_O rfl 48 (by decide) tw_1621 rfl rfl dX12_present_9 ?_
  refine nw_iconst (v := 1) C dX12_present_12 (by decide) ?_
  refine nw_isub C dX12_present_13 ?_
  refine nm_callSI  (As := [.int p0, .int 0, .int ((σ.1 48) - 1)]) (rest := [.ref (am 112)]) C h (fun _ _ e => c_M_in e) tw_1918 ks_X12_in ⟨Nat.le_of_ble_eq_true rfl, Nat.le_of_ble_eq_true rfl⟩ rfl dX12_present_14 rfl (Nat.le_of_ble_eq_true rfl) (fun r14 σ14 h => ?_)
  refine nw_if_eq (tgt := 51) C dX12_present_17 (by decide) h (fun _ h => ?_) (fun _ h => ?_)
  · refine nw_iconst (v := 1) C dX12_present_51 (by decide) ?_
    refine nw_goto (tgt := 56) C dX12_present_52 (by decide) ?_
    exact nw_lv (lv' := [(0, .ref (am 112)), (1, .int p0), (2, .int p1), (3, .int p2), (4, .int p3)]) [0, 1, 2, 3, 4] rfl (w_M_present_56 C hr p0 p1 p2 p3 1 _ h)
  · refine nw_iload_n C dX12_present_20 rfl 2 rfl ?_
    refine nw_iconst (v := 0) C dX12_present_21 (by decide) ?_
    refine nw_aload_n C dX12_present_22 rfl 0 rfl ?_
    refine nw_get (v := .int (σ14.1 44)) C in_X12 0 ml_O rfl 44 (by decide) tw_1617 rfl mf_44 dX12_present_23 ?_
    refine nw_iconst (v := 1) C dX12_present_26 (by decide) ?_
    refine nw_isub C dX12_present_27 ?_
    refine nm_callSI  (As := [.int p1, .int 0, .int ((σ14.1 44) - 1)]) (rest := [.ref (am 112)]) C h (fun _ _ e => c_M_in e) tw_1918 ks_X12_in ⟨Nat.le_of_ble_eq_true rfl, Nat.le_of_ble_eq_true rfl⟩ rfl dX12_present_28 rfl (Nat.le_of_ble_eq_true rfl) (fun r28 σ28 h => ?_)
    refine nw_if_eq (tgt := 51) C dX12_present_31 (by decide) h (fun _ h => ?_) (fun _ h => ?_)
    · refine nw_iconst (v := 1) C dX12_present_51 (by decide) ?_
      refine nw_goto (tgt := 56) C dX12_present_52 (by decide) ?_
      exact nw_lv (lv' := [(0, .ref (am 112)), (1, .int p0), (2, .int p1), (3, .int p2), (4, .int p3)]) [0, 1, 2, 3, 4] rfl (w_M_present_56 C hr p0 p1 p2 p3 1 _ h)
    · refine nw_aload_n C dX12_present_34 rfl 0 rfl ?_
      refine nw_iload_n C dX12_present_35 rfl 3 rfl ?_
      refine nm_callVI (q0 := 0) (As := [.int p2]) (rest := [.ref (am 112)]) C h (fun _ _ e => c_M_isPerson e) tw_2172 kv_X12_isPerson ml_O rfl ⟨Nat.le_of_ble_eq_true rfl, Nat.le_of_ble_eq_true rfl⟩ rfl dX12_present_36 rfl (Nat.le_of_ble_eq_true rfl) (fun r36 σ36 h => ?_)
      refine nw_if_eq (tgt := 51) C dX12_present_39 (by decide) h (fun _ h => ?_) (fun _ h => ?_)
      · refine nw_iconst (v := 1) C dX12_present_51 (by decide) ?_
        refine nw_goto (tgt := 56) C dX12_present_52 (by decide) ?_
        exact nw_lv (lv' := [(0, .ref (am 112)), (1, .int p0), (2, .int p1), (3, .int p2), (4, .int p3)]) [0, 1, 2, 3, 4] rfl (w_M_present_56 C hr p0 p1 p2 p3 1 _ h)
      · refine nw_aload_n C dX12_present_42 rfl 0 rfl ?_
        refine nw_iload C dX12_present_43 4 rfl ?_
        refine nm_callVI (q0 := 0) (As := [.int p3]) (rest := [.ref (am 112)]) C h (fun _ _ e => c_M_isPerson e) tw_2172 kv_X12_isPerson ml_O rfl ⟨Nat.le_of_ble_eq_true rfl, Nat.le_of_ble_eq_true rfl⟩ rfl dX12_present_45 rfl (Nat.le_of_ble_eq_true rfl) (fun r45 σ45 h => ?_)
        refine nw_if_ne (tgt := 55) C dX12_present_48 (by decide) h (fun _ h => ?_) (fun _ h => ?_)
        · refine nw_iconst (v := 1) C dX12_present_51 (by decide) ?_
          refine nw_goto (tgt := 56) C dX12_present_52 (by decide) ?_
          exact nw_lv (lv' := [(0, .ref (am 112)), (1, .int p0), (2, .int p1), (3, .int p2), (4, .int p3)]) [0, 1, 2, 3, 4] rfl (w_M_present_56 C hr p0 p1 p2 p3 1 _ h)
        · refine nw_iconst (v := 0) C dX12_present_55 (by decide) ?_
          exact nw_lv (lv' := [(0, .ref (am 112)), (1, .int p0), (2, .int p1), (3, .int p2), (4, .int p3)]) [0, 1, 2, 3, 4] rfl (w_M_present_56 C hr p0 p1 p2 p3 0 _ h)
theorem dX12_isCase_0 : decode cX12_isCase 0 = .ok (.iload_n 1, 1) := by decide +kernel
theorem dX12_isCase_1 : decode cX12_isCase 1 = .ok (.iconst 0, 1) := by decide +kernel
theorem dX12_isCase_2 : decode cX12_isCase 2 = .ok (.aload_n 0, 1) := by decide +kernel
theorem dX12_isCase_3 : decode cX12_isCase 3 = .ok (.getfield 566, 3) := by decide +kernel
theorem dX12_isCase_6 : decode cX12_isCase 6 = .ok (.iconst 1, 1) := by decide +kernel
theorem dX12_isCase_7 : decode cX12_isCase 7 = .ok (.isub, 1) := by decide +kernel
theorem dX12_isCase_8 : decode cX12_isCase 8 = .ok (.invokestatic 257, 3) := by decide +kernel
theorem dX12_isCase_11 : decode cX12_isCase 11 = .ok (.ireturn, 1) := by decide +kernel
def f_M_isCase (p0 : Int32) (σ : CS) : Option (Int32 × CS) := bnd (f_M_in p0 0 ((σ.1 60) - 1) σ) (fun r8 σ8 => grd (r8 = 0 ∨ r8 = 1) (some (r8, σ8)))
set_option maxHeartbeats 4000000 in
set_option maxRecDepth 100000 in
theorem c_M_isCase {l : Launch} {g : EG} {am : Nat → Nat} {Rr : va_W} {σ σ' : CS} {r : Int32} {p0 : Int32}  (h : f_M_isCase p0 σ = some (r, σ')) : CmI l g yX12_isCase (.code yX12_isCase cX12_isCase 2 (some .boolean)) 1 22 am Rr σ [.ref (am 112), .int p0] r σ' := by
  refine Ct.of rfl (by decide) (Nat.le_of_ble_eq_true rfl) ?_
  intro p e s m args below meth c A C hr
  show NMI g p l e s m args below meth c A 1 22 2 am Rr (r, σ') σ [(0, .ref (am 112)), (1, .int p0)] 0 []
  unfold f_M_isCase at h
  refine nw_iload_n C dX12_isCase_0 rfl 1 rfl ?_
  refine nw_iconst (v := 0) C dX12_isCase_1 (by decide) ?_
  refine nw_aload_n C dX12_isCase_2 rfl 0 rfl ?_
  refine nw_get (v := .int (σ.1 60)) C in_X12 0 ml_O rfl 60 (by decide) tw_1633 rfl mf_60 dX12_isCase_3 ?_
  refine nw_iconst (v := 1) C dX12_isCase_6 (by decide) ?_
  refine nw_isub C dX12_isCase_7 ?_
  refine nm_callSI  (As := [.int p0, .int 0, .int ((σ.1 60) - 1)]) (rest := []) C h (fun _ _ e => c_M_in e) tw_1918 ks_X12_in ⟨Nat.le_of_ble_eq_true rfl, Nat.le_of_ble_eq_true rfl⟩ rfl dX12_isCase_8 rfl (Nat.le_of_ble_eq_true rfl) (fun r8 σ8 h => ?_)
  exact nm_zretg C hr dX12_isCase_11 h
end
