/-! ===== the law's own methods ===== -/
section NZA
variable {g : EG} {p : Program} {l : Launch} {e : Env} {R : Room} {s : State} {m : MethodId} {args : Array Value} {below : List Frame} {meth : Method} {c : Code} {A : Nat → Prop} {Q : State → Prop} {nL : Nat} {cc : ByteArray} {own : String} {ws : va_W} {cells slots : Nat} {lv lv' : List (Nat × Value)} {pc : Nat} {st : List Value}
theorem kbackW {y : MethodName} {ws0 : List Cond} {rm : Room} {Pc : Array Value → State → Prop} {Qc : Array Value → State → Outcome → State → Prop} {mc ms : Nat} {free : Addr → Prop} {bytes : ByteArray} {maxL len : Nat} {ret : Option FieldType} {hh : List (Nat × Nat × Nat × Nat)}
    (hM : Met l y ws0 rm Pc Qc mc ms free) (hblind : FrameBlind Pc) (hframes : rm.frames + 1 ≤ R.frames) (hlocals : 8 + (maxL + 11) + rm.locals ≤ R.locals)
    (hws : ∀ w ∈ ws0, ∀ (a' : Array Value) (U : State), s.WarmedH U.vm → w.before a' U = true) (hcode : Cond.codeWith y bytes maxL ret hh ∈ ws0) (hinit : ∀ (a' : Array Value) (U : State), s.WarmedH U.vm → (Cond.initialized y.cls).before a' U = true) :
    Back l R p e below s args y len 8 (fun A a => A.cells + rm.cells ≤ R.cells ∧ A.slots + rm.slots ≤ R.slots ∧ Pc a A.U) (PostOf Qc mc ms free) := by
  refine va_ofFreeW (hh := hh) (S := headSpec ws0 rm) (P := Pc) (K := fun _ _ _ _ _ => True) (Q := fun a st o t => Qc a st o t ∧ ∃ L, FrameEnd st o t L mc ms ∧ ∀ q ∈ L, free q.base) (bytes := bytes) (maxL := maxL) (ret := ret)
    (E := fun a st o t L k n => k = mc ∧ n = ms ∧ ∀ q ∈ L, free q.base) hM hframes hlocals ?_ ?_ (fun _ _ _ _ _ _ _ _ _ => trivial) ?_ ?_
  · intro m meth c A a X hp
    exact ⟨atoms_intro fun w hw => hws w hw _ _ X.warmed, hws _ hcode _ _ X.warmed, hinit _ _ X.warmed, hp.1, hp.2.1⟩
  · intro m meth c A a g mk X hp
    exact hblind _ _ _ _ hp.2.2
  · intro a st o t ⟨hq, L, hF, hL⟩
    exact ⟨L, mc, ms, hF, rfl, rfl, hL⟩
  · intro m meth c A a g mk v t L k n X hp hq hF ⟨e1, e2, hL⟩
    subst e1; subst e2
    exact ⟨g, mk, t, L, rfl, rfl, hq.1, rfl, hL, rfl, rfl⟩
theorem Ct.ofH {y : MethodName} {cd : Cond} {maxL fr lo kc ks mc ms : Nat} {ret : Option FieldType} {av : List Value} {Qq : Option Value → va_W → Prop} {hh : List (Nat × Nat × Nat × Nat)} (hcd : cd = .codeWith y cc maxL ret hh) (hy : plainName y.cls = true) (hlen : (lg_sl av).length ≤ maxL)
    (body : ∀ (p : Program) (e : Env) (s : State) (m : MethodId) (args : Array Value) (below : List Frame) (meth : Method) (c : Code) (A : Nat → Prop), Cx g p s m args meth c A maxL cc y.cls → meth.sig.returnType = ret → c.exceptionTable.toList = tableOf hh →
      Nw g p l e { frames := fr, cells := kc, slots := ks, locals := lo } s m args below meth c A (RQ g below args s mc ms A Qq) maxL ws 0 0 (lv_args 0 av) 0 []) : Ct l g y cd fr lo kc ks ws av Qq mc ms := by
  intro sz
  subst hcd
  refine MetFree.of_bodyS (code := cc) (maxLocals := maxL) (ret := ret) hy ?_ ?_
  · intro args s m h hn
    obtain ⟨m9, meth, c, hn9, h1, h2, h3, h4, -, h5, h6, -⟩ := Cond.codeWith_spec (atoms_spec (ws := Cond.codeWith y cc maxL ret hh :: TT) h _ List.mem_cons_self)
    cases hn.symm.trans hn9
    exact ⟨meth, c, h1, h2, h3, h4, h5, h6⟩
  · intro p e s m args below meth c s₁ B hml hv _
    have hh0 : s₁.heap = s.heap := by rw [B.state]; rfl
    obtain ⟨rfl, hsz, hP, hE, hD0⟩ := hv
    have hts := atoms_spec (ws := Cond.codeWith y cc maxL ret hh :: TT) B.pre
    have hown : s.vm.findClass y.cls = some m.cls := findClass_of_methodNamed B.named
    have htab := vx_table (x := y) B (hts _ List.mem_cons_self)
    subst hsz
    have hD := hD0.self (sz := s.heap.size)
    have hl := lv_entry av hlen
    have K := body p e s m _ below meth c _ ⟨B.exec, B.bytes, hml, hown, fun w h => hts w (List.mem_cons_of_mem _ h), hE, fun q h => Or.inr h, B.notSynchronized⟩ B.returns htab s.heap [] _ hP hD va_S.rf hl
    rw [← lg_entry_eq] at K
    obtain ⟨t, a1, o, b1, b2, b3⟩ := K s₁ hh0 (Stand.of_body B)
    exact ⟨t, o, a1, b1, b2, ⟨b3.1, b3.2⟩⟩
/-- a static callee with handlers of its own -/
theorem nw_callSH {y : MethodName} {bytes : ByteArray} {maxL fr lo kc ks mc ms n index : Nat} {ret : Option FieldType} {hh : List (Nat × Nat × Nat × Nat)} {As rest : List Value} {Qq : Option Value → va_W → Prop} (C : Cx g p s m args meth c A nL cc own) (hM : Ct l g y (.codeWith y bytes maxL ret hh) fr lo kc ks ws As Qq mc ms) (hlink : Cond.methodLink own index y ∈ TT) (hstat : Cond.static y ∈ TT) (hini : Cond.initialized y.cls ∈ TT) (hcode : Cond.codeWith y bytes maxL ret hh ∈ TT) (hy : y.cls ≠ "java/lang/invoke/MethodHandle" ∧ y.cls ≠ "java/lang/invoke/VarHandle") (hlen : (parseMethodDescriptor y.desc).map (fun d => d.parameters.length) = some n) (hR : fr + 1 ≤ R.frames ∧ 8 + (maxL + 11) + lo ≤ R.locals) (hf : cells + kc ≤ R.cells ∧ slots + ks ≤ R.slots) (hn : As.length = n) (hd : decode cc pc = .ok (.invokestatic index, 3)) (hst : st = As.reverse ++ rest) (hW : (rest.map fun v => v.category).sum ≤ 8)
    (k : ∀ v ws', Qq v ws' → Nw g p l e R s m args below meth c A Q nL ws' (cells + mc) (slots + ms) lv (pc + 3) (v.toList ++ rest)) : Nw g p l e R s m args below meth c A Q nL ws cells slots lv pc st := by
  intro H locs ls hP hD hS hl
  obtain ⟨hx, hb, hml, hown, hts, hE, hA, hlk⟩ := id C
  have hsub := ct_sub hD hS hA
  have hK := kbackW (R := R) (p := p) (e := e) (below := below) (s := s) (args := args) (len := 3) (bytes := bytes) (maxL := maxL) (ret := ret) (hM H.size) ct_blind hR.1 hR.2 (fun w hw a' U hW => by
      rcases List.mem_cons.mp hw with h | h
      · rw [h]; exact TT_at hts hcode a' U hW
      · exact TT_at hts h a' U hW) List.mem_cons_self (fun a' U hW => TT_at hts hini a' U hW)
  refine ct_back (rest := rest) C hP hD hS hl ?_ k
  intro T hT X
  obtain ⟨v, vm₁, ⟨U', l2, c2, s2⟩, hW₁, X', ⟨g', mk, t, L, e1, e2, hq, h1, hL, h2, h3⟩, stp⟩ := vx_callSW X hx (hh := hh) (bytes := bytes) (maxL := maxL) (ret := ret) hown (hts _ hlink) (hts _ hstat) (hts _ hini) (hts _ hcode) hy hK (g := F0 m pc ls st) rfl (hl.1.trans hml.symm) (argsL := As) (rest := rest) (fun sig h => hn.trans (by rw [h] at hlen; exact (Option.some.inj hlen).symm)) hst (lv_room hW) (by rw [hb]; exact hd)
    (fun vm₁ hW₁ => ⟨hf.1, hf.2, rfl, by show (T.setVm vm₁).heap.size = _; exact congrArg Array.size hT, by show va_P _ _ _ (T.setVm vm₁).heap; rw [show (T.setVm vm₁).heap = H from hT]; exact hP, EO.call hE hS hsub hT hW₁, hD.weaken (fun _ _ _ _ => trivial)⟩)
  dsimp only [Pt.U, Pt.locs, Pt.cells, Pt.slots] at X' e1 e2 h1 h2 h3 stp
  subst h1; subst h2; subst h3
  exact ⟨v, _, t, U', L, hT, X', hL, e1, hq, stp⟩
/-- a virtual callee that returns or throws; what is thrown goes on as kx says -/
theorem nw_callVX {y : MethodName} {bytes : ByteArray} {maxL fr lo kc ks mc ms n index : Nat} {ret : Option FieldType} {As rest : List Value} {Qq : Option Value → va_W → Prop} {Xq : String → va_W → Prop} {b ci q0 nf : Nat} {fs : List Value} {Cn : String} {T0 : u_T} (C : Cx g p s m args meth c A nL cc own) (hM : CtX l g y (.code y bytes maxL ret) fr lo kc ks ws (.ref b :: As) Qq Xq mc ms) (hlink : Cond.methodLink own index y ∈ TT) (hk : Kv y Cn bytes maxL ret n) (he : ws[q0]? = some (b, .inr (ci, fs))) (hcl : vwCl[ci]? = some (Cn, T0, nf)) (hR : fr + 1 ≤ R.frames ∧ 8 + (maxL + 11) + lo ≤ R.locals) (hf : cells + kc ≤ R.cells ∧ slots + ks ≤ R.slots) (hn : As.length = n) (hd : decode cc pc = .ok (.invokevirtual index, 3)) (hst : st = As.reverse ++ .ref b :: rest) (hW : (rest.map fun v => v.category).sum ≤ 8)
    (k : ∀ v ws', Qq v ws' → Nw g p l e R s m args below meth c A Q nL ws' (cells + mc) (slots + ms) lv (pc + 3) (v.toList ++ rest))
    (kx : ∀ (E : String) (ws' : va_W) (H1 : Heap) (locs1 : List Loc) (ls : Array Slot) (q : Addr) (ce : Cell), Xq E ws' → va_P (gD g) vwCl ws' H1 → va_D A ws' → va_S A s.heap H1 locs1 → lv_has ls nL lv → H1[q]? = some ce → ce.vm = .none → s.vm.findClass E = some ce.cls → vx_W p l e R s m args below meth c H1 locs1 (cells + mc) (slots + ms) Q (F0 m pc ls rest) q) : Nw g p l e R s m args below meth c A Q nL ws cells slots lv pc st := by
  intro H locs ls hP hD hS hl
  obtain ⟨hx, hb, hml, hown, hts, hE, hA, hlk⟩ := id C
  have hsub := ct_sub hD hS hA
  obtain ⟨hinst, hsel, hini, hcode, hy, hlen⟩ := hk
  have hK := vx_kback (R := R) (p := p) (e := e) (below := below) (s := s) (sargs := args) (len := 3) (W9 := 8) (bytes := bytes) (maxL := maxL) (ret := ret) (hM H.size) ct_blind hR.1 hR.2 (fun w hw a' U hW => by
      rcases List.mem_cons.mp hw with h | h
      · rw [h]; exact TT_at hts hcode a' U hW
      · exact TT_at hts h a' U hW) List.mem_cons_self (fun a' U hW => TT_at hts hini a' U hW)
  intro T hT X
  obtain ⟨cellB, hcB, hoB, hclB⟩ := va_recv hE.1 hP hcl he
  have hst0 : ∀ (vm₁ : Vm) (g' : JFrame) (mk : MethodId) (a : Array Value), ((T.setVm vm₁).calling g' mk a).heap = H := fun _ _ _ _ => hT
  rcases vx_callV X hx (C := Cn) (bytes := bytes) (maxL := maxL) (ret := ret) hown (hts _ hlink) (hts _ hinst) (hts _ hsel) (hts _ hcode) hy hK (by rw [hT]; exact hcB) hoB hclB (g := F0 m pc ls st) rfl (hl.1.trans hml.symm) (argsL := As) (rest := rest) (fun sig h => hn.trans (by rw [h] at hlen; exact (Option.some.inj hlen).symm)) hst (lv_room hW) (by rw [hb]; exact hd)
    (fun vm₁ hW₁ => ⟨hf.1, hf.2, rfl, by show (T.setVm vm₁).heap.size = _; exact congrArg Array.size hT, by show va_P _ _ _ (T.setVm vm₁).heap; rw [show (T.setVm vm₁).heap = H from hT]; exact hP, EO.call hE hS hsub hT hW₁, hD.weaken (fun _ _ _ _ => trivial)⟩) with ⟨v, vm₁, ⟨U', l2, c2, s2⟩, hW₁, X', ⟨g', mk, t, L, e1, e2, hq0, h1, hL, h2, h3⟩, stp⟩ | ⟨q, vm₁, ⟨U', l2, c2, s2⟩, hW₁, X', ⟨g', mk, t, L, E, ce, e1, e2, hq0, hce, hcv, hcl0, h1, hL, h2, h3⟩, stp⟩
  · dsimp only [Pt.U, Pt.locs, Pt.cells, Pt.slots] at X' e1 e2 h1 h2 h3 stp hq0
    subst h1; subst h2; subst h3
    obtain ⟨⟨v', ws', hv, hx0, hP1, hD1⟩, hz, hkp⟩ := hq0
    cases hv
    rw [hst0] at hz hkp
    obtain ⟨t2, a1, b1⟩ := k v ws' hx0 U'.heap (locs ++ L) ls (by rw [e1]; exact hP1) (hD1.weaken (fun _ q _ h => hsub _ h))
      ⟨Nat.le_trans hS.1 (by rw [e1]; exact hz), fun q h1 h2 => by rw [e1, hkp q (Nat.lt_of_lt_of_le h1 hS.1) (fun z => h2 (hsub q z))]; exact hS.2.1 q h1 h2, fun q hq => by
        rcases List.mem_append.mp hq with h | h
        · exact hS.2.2 q h
        · exact hsub _ (hL q h)⟩ hl U' rfl X'
    exact ⟨t2, stp t2 a1, b1⟩
  · dsimp only [Pt.U, Pt.locs, Pt.cells, Pt.slots] at X' e1 e2 h1 h2 h3 stp hcl0 hq0
    subst h1; subst h2; subst h3
    obtain ⟨⟨ws', hx0, hP1, hD1⟩, hz, hkp⟩ := hq0
    rw [hst0] at hz hkp
    obtain ⟨t2, a1, b1⟩ := kx E ws' U'.heap (locs ++ L) ls q ce hx0 (by rw [e1]; exact hP1) (hD1.weaken (fun _ q _ h => hsub _ h))
      ⟨Nat.le_trans hS.1 (by rw [e1]; exact hz), fun q h1 h2 => by rw [e1, hkp q (Nat.lt_of_lt_of_le h1 hS.1) (fun z => h2 (hsub q z))]; exact hS.2.1 q h1 h2, fun q hq => by
        rcases List.mem_append.mp hq with h | h
        · exact hS.2.2 q h
        · exact hsub _ (hL q h)⟩ hl (by rw [e1]; exact hce) hcv (vx_cls hW₁ hcl0) U' rfl X'
    exact ⟨t2, stp.trans a1, b1⟩
theorem nw_last (C : Cx g p s m args meth c A nL cc own) {a0 n : Nat} {f : Nat → Int64} {i : Int32} {x : Int64} (q0 : Nat) (he : ws[q0]? = some (a0, .inl (gJ g, n, .inr (.inl f)))) (hd : decode cc pc = .ok (.lastore, 1)) (hin : vp_in i n) {ws' : va_W} (hs : ws.set q0 (a0, .inl (gJ g, n, .inr (.inl (vp_updL f i.toNatClampNeg x)))) = ws') (k : Nw g p l e R s m args below meth c A Q nL ws' cells slots lv (pc + 1) st) : Nw g p l e R s m args below meth c A Q nL ws cells slots lv pc (.long x :: .int i :: .ref a0 :: st) :=
  fun H locs ls hP hD hS hl => va_last C.1 C.2.1 C.2.2.2.2.2.1.1 hP hD hS q0 3 he rfl hin hd (fun H1 locs1 hP1 hD1 hS1 => k H1 locs1 ls (hs ▸ hP1) (hs ▸ hD1) hS1 hl)
theorem nw_lald (C : Cx g p s m args meth c A nL cc own) {a0 n : Nat} {f : Nat → Int64} {i : Int32} (q0 : Nat) (he : ws[q0]? = some (a0, .inl (gJ g, n, .inr (.inl f)))) (hd : decode cc pc = .ok (.laload, 1)) (hin : vp_in i n) (k : Nw g p l e R s m args below meth c A Q nL ws cells slots lv (pc + 1) (.long (f i.toNatClampNeg) :: st)) : Nw g p l e R s m args below meth c A Q nL ws cells slots lv pc (.int i :: .ref a0 :: st) :=
  fun H locs ls hP hD hS hl => va_lald C.1 C.2.1 C.2.2.2.2.2.1.1 hP q0 3 he rfl hin hd (k H locs ls hP hD hS hl)
/-- what was thrown is caught by the table's row x -/
theorem nw_catch (C : Cx g p s m args meth c A nL cc own) {hh : List (Nat × Nat × Nat × Nat)} (htab : c.exceptionTable.toList = tableOf hh) (pre : List ExceptionTableEntry) (x : ExceptionTableEntry) (suf : List ExceptionTableEntry) (hsplit : tableOf hh = pre ++ x :: suf) {E name : String} {H1 : Heap} {locs1 : List Loc} {ls : Array Slot} {q : Addr} {ce : Cell} {rest : List Value}
    (hpass : ∀ z ∈ pre, covers z pc = false ∨ (z.catchType ≠ 0 ∧ ∃ nm : String, Cond.classLink own z.catchType nm ∈ TT ∧ Cond.not (.castable E nm) ∈ NN)) (hx : covers x pc = true) (h0 : x.catchType ≠ 0) (hlink : Cond.classLink own x.catchType name ∈ TT) (hcast : Cond.castable E name ∈ NN)
    (hP : va_P (gD g) vwCl ws H1) (hD : va_D A ws) (hS : va_S A s.heap H1 locs1) (hl : lv_has ls nL lv) (hce : H1[q]? = some ce) (hcv : ce.vm = .none) (hcl : s.vm.findClass E = some ce.cls)
    (k : Nw g p l e R s m args below meth c A Q nL ws cells slots lv x.handlerPc [.ref q]) : vx_W p l e R s m args below meth c H1 locs1 cells slots Q (F0 m pc ls rest) q :=
  vx_catch (name := name) C.2.2.2.1 pre x suf (htab.trans hsplit) (fun z hz => by
    rcases hpass z hz with h | ⟨h1, nm, h2, h3⟩
    · exact Or.inl h
    · exact Or.inr ⟨h1, nm, C.2.2.2.2.1 _ h2, va_Nc.of (C.2.2.2.2.2.1.2.1 _ h3)⟩) hx h0 (C.2.2.2.2.1 _ hlink) (va_Nw.use rfl (C.2.2.2.2.2.1.2.1 _ hcast)) hce hcv hcl (k H1 locs1 ls hP hD hS hl)
end NZA
/-- the row of one long that the law's methods write to stands behind the class's world and R1 -/
abbrev oWl (g : EG) (ao : Nat) (f : Nat → Int64) : Nat × va_E := (ao, .inl (gJ g, 1, .inr (.inl f)))
theorem oW_at {g : EG} {ad ta : Nat → Nat} {σ : CS} {R1 : va_W} {ao : Nat} {f : Nat → Int64} : (cw g ad ta σ ++ (R1 ++ [oWl g ao f]))[60 + R1.length]? = some (oWl g ao f) := by
  rw [List.getElem?_append_right (by rw [cw_len]; omega), cw_len, List.getElem?_append_right (by omega)]
  simp
theorem oW_set {g : EG} {ad ta : Nat → Nat} {σ : CS} {R1 : va_W} {ao : Nat} {f f' : Nat → Int64} : (cw g ad ta σ ++ (R1 ++ [oWl g ao f])).set (60 + R1.length) (oWl g ao f') = cw g ad ta σ ++ (R1 ++ [oWl g ao f']) := by
  rw [List.set_append_right _ _ (by rw [cw_len]; omega), cw_len, List.set_append_right _ _ (by omega)]
  simp
theorem nc1 : Cond.not (.castable "java/lang/IllegalArgumentException" "java/lang/IndexOutOfBoundsException") ∈ NN := List.mem_append_right _ List.mem_cons_self
theorem nc2 : Cond.not (.castable "java/lang/IllegalStateException" "java/lang/IllegalArgumentException") ∈ NN := List.mem_append_right _ (List.mem_cons_of_mem _ List.mem_cons_self)
/-- what the law's method for a call owes: the kind of end k, the out row -/
def QZ (g : EG) (ad : Nat → Nat) (R1 : va_W) (ao φ0 : Nat) (k : Int32) (σ : CS) (f : Nat → Int64) : Option Value → va_W → Prop := fun v ws' => v = some (.int k) ∧ (∃ ta, ws' = cw g ad ta σ ++ (R1 ++ [oWl g ao f])) ∧ φ0 ≤ ph σ.2.2 ∧ ph σ.2.2 ≤ BB
theorem dL_wait_0 : decode cL_wait 0 = .ok (.aload_n 2, 1) := by decide +kernel
theorem dL_wait_1 : decode cL_wait 1 = .ok (.iconst 0, 1) := by decide +kernel
theorem dL_wait_2 : decode cL_wait 2 = .ok (.aload_n 0, 1) := by decide +kernel
theorem dL_wait_3 : decode cL_wait 3 = .ok (.iload_n 1, 1) := by decide +kernel
theorem dL_wait_4 : decode cL_wait 4 = .ok (.invokevirtual 7, 3) := by decide +kernel
theorem dL_wait_7 : decode cL_wait 7 = .ok (.i2l, 1) := by decide +kernel
theorem dL_wait_8 : decode cL_wait 8 = .ok (.lastore, 1) := by decide +kernel
theorem dL_wait_9 : decode cL_wait 9 = .ok (.goto 9, 3) := by decide +kernel
theorem dL_wait_12 : decode cL_wait 12 = .ok (.astore_n 3, 1) := by decide +kernel
theorem dL_wait_13 : decode cL_wait 13 = .ok (.iconst 1, 1) := by decide +kernel
theorem dL_wait_14 : decode cL_wait 14 = .ok (.ireturn, 1) := by decide +kernel
theorem dL_wait_15 : decode cL_wait 15 = .ok (.astore_n 3, 1) := by decide +kernel
theorem dL_wait_16 : decode cL_wait 16 = .ok (.iconst 2, 1) := by decide +kernel
theorem dL_wait_17 : decode cL_wait 17 = .ok (.ireturn, 1) := by decide +kernel
theorem dL_wait_18 : decode cL_wait 18 = .ok (.iconst 0, 1) := by decide +kernel
theorem dL_wait_19 : decode cL_wait 19 = .ok (.ireturn, 1) := by decide +kernel
theorem kh_L_wait : Cond.codeWith yL_wait cL_wait 4 (some .int) [(0, 9, 12, 13), (0, 9, 15, 15)] ∈ TT ∧ (yL_wait.cls ≠ "java/lang/invoke/MethodHandle" ∧ yL_wait.cls ≠ "java/lang/invoke/VarHandle") ∧ (parseMethodDescriptor yL_wait.desc).map (fun d => d.parameters.length) = some 3 := ⟨tw_668, by decide +kernel, by decide +kernel⟩
set_option maxHeartbeats 4000000 in
set_option maxRecDepth 100000 in
theorem z_wait {l : Launch} {g : EG} {ad ta : Nat → Nat} {R1 : va_W} {ao : Nat} {f : Nat → Int64} {σ σ1 : CS} {c0 v0 : Int32} {p0 : Int32} (hl : l.stackTraces = false) (h : f_FC_wait p0 σ = some ((c0, v0), σ1)) (hc : c0 = 0 ∨ c0 = 1 ∨ c0 = 2) (hφ2 : ph σ.2.2 ≤ BB) :
    Ct l g yL_wait (.codeWith yL_wait cL_wait 4 (some .int) [(0, 9, 12, 13), (0, 9, 15, 15)]) 14 326 (BB - ph σ.2.2 + 1) (2 * (BB - ph σ.2.2) + 6) (cw g ad ta σ ++ (R1 ++ [oWl g ao f])) [.ref (ad 0), .int p0, .ref ao] (QZ g ad R1 ao (ph σ.2.2) (if c0 = 0 then 0 else if c0 = 1 then 1 else 2) σ1 (if c0 = 0 then vp_updL f 0 v0.toInt64 else f)) (ph σ1.2.2 - ph σ.2.2 + 1) (2 * (ph σ1.2.2 - ph σ.2.2) + 6) := by
  refine Ct.ofH rfl (by decide) (Nat.le_of_ble_eq_true rfl) ?_
  intro p e s m args below meth c A C hr htab
  refine nw_lv (lv' := [(0, .ref (ad 0)), (1, .int p0), (2, .ref ao)]) [0, 1, 2] rfl ?_
  refine nw_aload_n C dL_wait_0 rfl 2 rfl ?_
  refine nw_iconst (v := 0) C dL_wait_1 (by decide) ?_
  refine nw_aload_n C dL_wait_2 rfl 0 rfl ?_
  refine nw_iload_n C dL_wait_3 rfl 1 rfl ?_
  refine nw_callVX (q0 := 0) (As := [.int p0]) (rest := [.int 0, .ref ao]) C (c_FC_wait hl h hφ2) tw_671 kv_X11_wait cl_FC rfl ⟨Nat.le_of_ble_eq_true rfl, Nat.le_of_ble_eq_true rfl⟩ ⟨by show _ ≤ BB - ph σ.2.2 + 1; omega, by show _ ≤ 2 * (BB - ph σ.2.2) + 6; omega⟩ rfl dL_wait_4 rfl (Nat.le_of_ble_eq_true rfl) ?_ ?_
  · rintro w ws1 ⟨hc0, rfl, ⟨ta1, rfl⟩, h3, h4⟩
    have hc0 : c0 = 0 := hc0
    subst hc0
    refine nw_i2l C dL_wait_7 ?_
    refine nw_last C (60 + R1.length) oW_at dL_wait_8 (by unfold vp_in; decide) oW_set ?_
    refine nw_goto (tgt := 18) C dL_wait_9 (by decide) ?_
    refine nw_iconst (v := 0) C dL_wait_18 (by decide) ?_
    exact nw_iret C hr dL_wait_19 (Nat.le_of_eq (Nat.zero_add _)) (Nat.le_of_eq (Nat.zero_add _)) ⟨rfl, ⟨ta1, rfl⟩, h3, h4⟩
  · rintro E ws1 H1 locs1 ls q ce ⟨hc0, hE, ⟨ta1, rfl⟩, h3, h4⟩ hP hD hS hl2 hce hcv hcl
    have hc0 : ¬ c0 = 0 := hc0
    have hE : E = exN c0 := hE
    rcases hc with hc | hc | hc
    · exact absurd hc hc0
    · subst hc
      have hE : E = "java/lang/IllegalArgumentException" := hE
      subst hE
      refine nw_catch (name := "java/lang/IllegalArgumentException") C htab [] ⟨0, 9, 12, 13⟩ [⟨0, 9, 15, 15⟩] rfl (fun z hz => nomatch hz) (by decide) (by decide) tw_669 tw_683 hP hD hS hl2 hce hcv hcl ?_
      refine nw_astore_n (lv' := [(3, .ref q), (0, .ref (ad 0)), (1, .int p0), (2, .ref ao)]) C dL_wait_12 rfl (by decide) rfl ?_
      refine nw_iconst (v := 1) C dL_wait_13 (by decide) ?_
      exact nw_iret C hr dL_wait_14 (Nat.le_of_eq (Nat.zero_add _)) (Nat.le_of_eq (Nat.zero_add _)) ⟨rfl, ⟨ta1, rfl⟩, h3, h4⟩
    · subst hc
      have hE : E = "java/lang/IllegalStateException" := hE
      subst hE
      refine nw_catch (name := "java/lang/IllegalStateException") C htab [⟨0, 9, 12, 13⟩] ⟨0, 9, 15, 15⟩ [] rfl (fun z hz => by rcases List.mem_singleton.mp hz with rfl; exact Or.inr ⟨by decide, "java/lang/IllegalArgumentException", tw_669, nc2⟩) (by decide) (by decide) tw_670 tw_755 hP hD hS hl2 hce hcv hcl ?_
      refine nw_astore_n (lv' := [(3, .ref q), (0, .ref (ad 0)), (1, .int p0), (2, .ref ao)]) C dL_wait_15 rfl (by decide) rfl ?_
      refine nw_iconst (v := 2) C dL_wait_16 (by decide) ?_
      exact nw_iret C hr dL_wait_17 (Nat.le_of_eq (Nat.zero_add _)) (Nat.le_of_eq (Nat.zero_add _)) ⟨rfl, ⟨ta1, rfl⟩, h3, h4⟩
theorem dL_mark_0 : decode cL_mark 0 = .ok (.aload 4, 2) := by decide +kernel
theorem dL_mark_2 : decode cL_mark 2 = .ok (.iconst 0, 1) := by decide +kernel
theorem dL_mark_3 : decode cL_mark 3 = .ok (.aload_n 0, 1) := by decide +kernel
theorem dL_mark_4 : decode cL_mark 4 = .ok (.iload_n 1, 1) := by decide +kernel
theorem dL_mark_5 : decode cL_mark 5 = .ok (.iload_n 2, 1) := by decide +kernel
theorem dL_mark_6 : decode cL_mark 6 = .ok (.iload_n 3, 1) := by decide +kernel
theorem dL_mark_7 : decode cL_mark 7 = .ok (.invokevirtual 17, 3) := by decide +kernel
theorem dL_mark_10 : decode cL_mark 10 = .ok (.i2l, 1) := by decide +kernel
theorem dL_mark_11 : decode cL_mark 11 = .ok (.lastore, 1) := by decide +kernel
theorem dL_mark_12 : decode cL_mark 12 = .ok (.goto 11, 3) := by decide +kernel
theorem dL_mark_15 : decode cL_mark 15 = .ok (.astore 5, 2) := by decide +kernel
theorem dL_mark_17 : decode cL_mark 17 = .ok (.iconst 1, 1) := by decide +kernel
theorem dL_mark_18 : decode cL_mark 18 = .ok (.ireturn, 1) := by decide +kernel
theorem dL_mark_19 : decode cL_mark 19 = .ok (.astore 5, 2) := by decide +kernel
theorem dL_mark_21 : decode cL_mark 21 = .ok (.iconst 2, 1) := by decide +kernel
theorem dL_mark_22 : decode cL_mark 22 = .ok (.ireturn, 1) := by decide +kernel
theorem dL_mark_23 : decode cL_mark 23 = .ok (.iconst 0, 1) := by decide +kernel
theorem dL_mark_24 : decode cL_mark 24 = .ok (.ireturn, 1) := by decide +kernel
theorem kh_L_mark : Cond.codeWith yL_mark cL_mark 6 (some .int) [(0, 12, 15, 13), (0, 12, 19, 15)] ∈ TT ∧ (yL_mark.cls ≠ "java/lang/invoke/MethodHandle" ∧ yL_mark.cls ≠ "java/lang/invoke/VarHandle") ∧ (parseMethodDescriptor yL_mark.desc).map (fun d => d.parameters.length) = some 5 := ⟨tw_914, by decide +kernel, by decide +kernel⟩
set_option maxHeartbeats 4000000 in
set_option maxRecDepth 100000 in
theorem z_mark {l : Launch} {g : EG} {ad ta : Nat → Nat} {R1 : va_W} {ao : Nat} {f : Nat → Int64} {σ σ1 : CS} {c0 v0 : Int32} {p0 p1 p2 : Int32} (hl : l.stackTraces = false) (h : f_FC_mark p0 p1 p2 σ = some ((c0, v0), σ1)) (hc : c0 = 0 ∨ c0 = 1 ∨ c0 = 2) (hφ2 : ph σ.2.2 ≤ BB) :
    Ct l g yL_mark (.codeWith yL_mark cL_mark 6 (some .int) [(0, 12, 15, 13), (0, 12, 19, 15)]) 14 327 (BB - ph σ.2.2 + 1) (2 * (BB - ph σ.2.2) + 6) (cw g ad ta σ ++ (R1 ++ [oWl g ao f])) [.ref (ad 0), .int p0, .int p1, .int p2, .ref ao] (QZ g ad R1 ao (ph σ.2.2) (if c0 = 0 then 0 else if c0 = 1 then 1 else 2) σ1 (if c0 = 0 then vp_updL f 0 v0.toInt64 else f)) (ph σ1.2.2 - ph σ.2.2 + 1) (2 * (ph σ1.2.2 - ph σ.2.2) + 6) := by
  refine Ct.ofH rfl (by decide) (Nat.le_of_ble_eq_true rfl) ?_
  intro p e s m args below meth c A C hr htab
  refine nw_lv (lv' := [(0, .ref (ad 0)), (1, .int p0), (2, .int p1), (3, .int p2), (4, .ref ao)]) [0, 1, 2, 3, 4] rfl ?_
  refine nw_aload C dL_mark_0 4 rfl ?_
  refine nw_iconst (v := 0) C dL_mark_2 (by decide) ?_
  refine nw_aload_n C dL_mark_3 rfl 0 rfl ?_
  refine nw_iload_n C dL_mark_4 rfl 1 rfl ?_
  refine nw_iload_n C dL_mark_5 rfl 2 rfl ?_
  refine nw_iload_n C dL_mark_6 rfl 3 rfl ?_
  refine nw_callVX (q0 := 0) (As := [.int p0, .int p1, .int p2]) (rest := [.int 0, .ref ao]) C (c_FC_mark hl h hφ2) tw_915 kv_X11_mark cl_FC rfl ⟨Nat.le_of_ble_eq_true rfl, Nat.le_of_ble_eq_true rfl⟩ ⟨by show _ ≤ BB - ph σ.2.2 + 1; omega, by show _ ≤ 2 * (BB - ph σ.2.2) + 6; omega⟩ rfl dL_mark_7 rfl (Nat.le_of_ble_eq_true rfl) ?_ ?_
  · rintro w ws1 ⟨hc0, rfl, ⟨ta1, rfl⟩, h3, h4⟩
    have hc0 : c0 = 0 := hc0
    subst hc0
    refine nw_i2l C dL_mark_10 ?_
    refine nw_last C (60 + R1.length) oW_at dL_mark_11 (by unfold vp_in; decide) oW_set ?_
    refine nw_goto (tgt := 23) C dL_mark_12 (by decide) ?_
    refine nw_iconst (v := 0) C dL_mark_23 (by decide) ?_
    exact nw_iret C hr dL_mark_24 (Nat.le_of_eq (Nat.zero_add _)) (Nat.le_of_eq (Nat.zero_add _)) ⟨rfl, ⟨ta1, rfl⟩, h3, h4⟩
  · rintro E ws1 H1 locs1 ls q ce ⟨hc0, hE, ⟨ta1, rfl⟩, h3, h4⟩ hP hD hS hl2 hce hcv hcl
    have hc0 : ¬ c0 = 0 := hc0
    have hE : E = exN c0 := hE
    rcases hc with hc | hc | hc
    · exact absurd hc hc0
    · subst hc
      have hE : E = "java/lang/IllegalArgumentException" := hE
      subst hE
      refine nw_catch (name := "java/lang/IllegalArgumentException") C htab [] ⟨0, 12, 15, 13⟩ [⟨0, 12, 19, 15⟩] rfl (fun z hz => nomatch hz) (by decide) (by decide) tw_669 tw_683 hP hD hS hl2 hce hcv hcl ?_
      refine nw_astore (lv' := [(5, .ref q), (0, .ref (ad 0)), (1, .int p0), (2, .int p1), (3, .int p2), (4, .ref ao)]) C dL_mark_15 (by decide) rfl ?_
      refine nw_iconst (v := 1) C dL_mark_17 (by decide) ?_
      exact nw_iret C hr dL_mark_18 (Nat.le_of_eq (Nat.zero_add _)) (Nat.le_of_eq (Nat.zero_add _)) ⟨rfl, ⟨ta1, rfl⟩, h3, h4⟩
    · subst hc
      have hE : E = "java/lang/IllegalStateException" := hE
      subst hE
      refine nw_catch (name := "java/lang/IllegalStateException") C htab [⟨0, 12, 15, 13⟩] ⟨0, 12, 19, 15⟩ [] rfl (fun z hz => by rcases List.mem_singleton.mp hz with rfl; exact Or.inr ⟨by decide, "java/lang/IllegalArgumentException", tw_669, nc2⟩) (by decide) (by decide) tw_670 tw_755 hP hD hS hl2 hce hcv hcl ?_
      refine nw_astore (lv' := [(5, .ref q), (0, .ref (ad 0)), (1, .int p0), (2, .int p1), (3, .int p2), (4, .ref ao)]) C dL_mark_19 (by decide) rfl ?_
      refine nw_iconst (v := 2) C dL_mark_21 (by decide) ?_
      exact nw_iret C hr dL_mark_22 (Nat.le_of_eq (Nat.zero_add _)) (Nat.le_of_eq (Nat.zero_add _)) ⟨rfl, ⟨ta1, rfl⟩, h3, h4⟩
theorem dL_ring_0 : decode cL_ring 0 = .ok (.aload_n 3, 1) := by decide +kernel
theorem dL_ring_1 : decode cL_ring 1 = .ok (.iconst 0, 1) := by decide +kernel
theorem dL_ring_2 : decode cL_ring 2 = .ok (.aload_n 0, 1) := by decide +kernel
theorem dL_ring_3 : decode cL_ring 3 = .ok (.iload_n 1, 1) := by decide +kernel
theorem dL_ring_4 : decode cL_ring 4 = .ok (.iload_n 2, 1) := by decide +kernel
theorem dL_ring_5 : decode cL_ring 5 = .ok (.invokevirtual 21, 3) := by decide +kernel
theorem dL_ring_8 : decode cL_ring 8 = .ok (.i2l, 1) := by decide +kernel
theorem dL_ring_9 : decode cL_ring 9 = .ok (.lastore, 1) := by decide +kernel
theorem dL_ring_10 : decode cL_ring 10 = .ok (.goto 7, 3) := by decide +kernel
theorem dL_ring_13 : decode cL_ring 13 = .ok (.astore 4, 2) := by decide +kernel
theorem dL_ring_15 : decode cL_ring 15 = .ok (.iconst 1, 1) := by decide +kernel
theorem dL_ring_16 : decode cL_ring 16 = .ok (.ireturn, 1) := by decide +kernel
theorem dL_ring_17 : decode cL_ring 17 = .ok (.iconst 0, 1) := by decide +kernel
theorem dL_ring_18 : decode cL_ring 18 = .ok (.ireturn, 1) := by decide +kernel
theorem kh_L_ring : Cond.codeWith yL_ring cL_ring 5 (some .int) [(0, 10, 13, 13)] ∈ TT ∧ (yL_ring.cls ≠ "java/lang/invoke/MethodHandle" ∧ yL_ring.cls ≠ "java/lang/invoke/VarHandle") ∧ (parseMethodDescriptor yL_ring.desc).map (fun d => d.parameters.length) = some 4 := ⟨tw_931, by decide +kernel, by decide +kernel⟩
set_option maxHeartbeats 4000000 in
set_option maxRecDepth 100000 in
theorem z_ring {l : Launch} {g : EG} {ad ta : Nat → Nat} {R1 : va_W} {ao : Nat} {f : Nat → Int64} {σ σ1 : CS} {c0 v0 : Int32} {p0 p1 : Int32} (hl : l.stackTraces = false) (h : f_FC_ring p0 p1 σ = some ((c0, v0), σ1)) (hc : c0 = 0 ∨ c0 = 1) (hφ2 : ph σ.2.2 ≤ BB) :
    Ct l g yL_ring (.codeWith yL_ring cL_ring 5 (some .int) [(0, 10, 13, 13)]) 14 327 (BB - ph σ.2.2 + 1) (2 * (BB - ph σ.2.2) + 6) (cw g ad ta σ ++ (R1 ++ [oWl g ao f])) [.ref (ad 0), .int p0, .int p1, .ref ao] (QZ g ad R1 ao (ph σ.2.2) (if c0 = 0 then 0 else 1) σ1 (if c0 = 0 then vp_updL f 0 v0.toInt64 else f)) (ph σ1.2.2 - ph σ.2.2 + 1) (2 * (ph σ1.2.2 - ph σ.2.2) + 6) := by
  refine Ct.ofH rfl (by decide) (Nat.le_of_ble_eq_true rfl) ?_
  intro p e s m args below meth c A C hr htab
  refine nw_lv (lv' := [(0, .ref (ad 0)), (1, .int p0), (2, .int p1), (3, .ref ao)]) [0, 1, 2, 3] rfl ?_
  refine nw_aload_n C dL_ring_0 rfl 3 rfl ?_
  refine nw_iconst (v := 0) C dL_ring_1 (by decide) ?_
  refine nw_aload_n C dL_ring_2 rfl 0 rfl ?_
  refine nw_iload_n C dL_ring_3 rfl 1 rfl ?_
  refine nw_iload_n C dL_ring_4 rfl 2 rfl ?_
  refine nw_callVX (q0 := 0) (As := [.int p0, .int p1]) (rest := [.int 0, .ref ao]) C (c_FC_ring hl h hφ2) tw_932 kv_X11_ring cl_FC rfl ⟨Nat.le_of_ble_eq_true rfl, Nat.le_of_ble_eq_true rfl⟩ ⟨by show _ ≤ BB - ph σ.2.2 + 1; omega, by show _ ≤ 2 * (BB - ph σ.2.2) + 6; omega⟩ rfl dL_ring_5 rfl (Nat.le_of_ble_eq_true rfl) ?_ ?_
  · rintro w ws1 ⟨hc0, rfl, ⟨ta1, rfl⟩, h3, h4⟩
    have hc0 : c0 = 0 := hc0
    subst hc0
    refine nw_i2l C dL_ring_8 ?_
    refine nw_last C (60 + R1.length) oW_at dL_ring_9 (by unfold vp_in; decide) oW_set ?_
    refine nw_goto (tgt := 17) C dL_ring_10 (by decide) ?_
    refine nw_iconst (v := 0) C dL_ring_17 (by decide) ?_
    exact nw_iret C hr dL_ring_18 (Nat.le_of_eq (Nat.zero_add _)) (Nat.le_of_eq (Nat.zero_add _)) ⟨rfl, ⟨ta1, rfl⟩, h3, h4⟩
  · rintro E ws1 H1 locs1 ls q ce ⟨hc0, hE, ⟨ta1, rfl⟩, h3, h4⟩ hP hD hS hl2 hce hcv hcl
    have hc0 : ¬ c0 = 0 := hc0
    have hE : E = exN c0 := hE
    rcases hc with hc | hc
    · exact absurd hc hc0
    · subst hc
      have hE : E = "java/lang/IllegalArgumentException" := hE
      subst hE
      refine nw_catch (name := "java/lang/IllegalArgumentException") C htab [] ⟨0, 10, 13, 13⟩ [] rfl (fun z hz => nomatch hz) (by decide) (by decide) tw_669 tw_683 hP hD hS hl2 hce hcv hcl ?_
      refine nw_astore (lv' := [(4, .ref q), (0, .ref (ad 0)), (1, .int p0), (2, .int p1), (3, .ref ao)]) C dL_ring_13 (by decide) rfl ?_
      refine nw_iconst (v := 1) C dL_ring_15 (by decide) ?_
      exact nw_iret C hr dL_ring_16 (Nat.le_of_eq (Nat.zero_add _)) (Nat.le_of_eq (Nat.zero_add _)) ⟨rfl, ⟨ta1, rfl⟩, h3, h4⟩
theorem dL_unring_0 : decode cL_unring 0 = .ok (.aload_n 3, 1) := by decide +kernel
theorem dL_unring_1 : decode cL_unring 1 = .ok (.iconst 0, 1) := by decide +kernel
theorem dL_unring_2 : decode cL_unring 2 = .ok (.aload_n 0, 1) := by decide +kernel
theorem dL_unring_3 : decode cL_unring 3 = .ok (.iload_n 1, 1) := by decide +kernel
theorem dL_unring_4 : decode cL_unring 4 = .ok (.iload_n 2, 1) := by decide +kernel
theorem dL_unring_5 : decode cL_unring 5 = .ok (.invokevirtual 25, 3) := by decide +kernel
theorem dL_unring_8 : decode cL_unring 8 = .ok (.i2l, 1) := by decide +kernel
theorem dL_unring_9 : decode cL_unring 9 = .ok (.lastore, 1) := by decide +kernel
theorem dL_unring_10 : decode cL_unring 10 = .ok (.goto 11, 3) := by decide +kernel
theorem dL_unring_13 : decode cL_unring 13 = .ok (.astore 4, 2) := by decide +kernel
theorem dL_unring_15 : decode cL_unring 15 = .ok (.iconst 1, 1) := by decide +kernel
theorem dL_unring_16 : decode cL_unring 16 = .ok (.ireturn, 1) := by decide +kernel
theorem dL_unring_17 : decode cL_unring 17 = .ok (.astore 4, 2) := by decide +kernel
theorem dL_unring_19 : decode cL_unring 19 = .ok (.iconst 2, 1) := by decide +kernel
theorem dL_unring_20 : decode cL_unring 20 = .ok (.ireturn, 1) := by decide +kernel
theorem dL_unring_21 : decode cL_unring 21 = .ok (.iconst 0, 1) := by decide +kernel
theorem dL_unring_22 : decode cL_unring 22 = .ok (.ireturn, 1) := by decide +kernel
theorem kh_L_unring : Cond.codeWith yL_unring cL_unring 5 (some .int) [(0, 10, 13, 28), (0, 10, 17, 13)] ∈ TT ∧ (yL_unring.cls ≠ "java/lang/invoke/MethodHandle" ∧ yL_unring.cls ≠ "java/lang/invoke/VarHandle") ∧ (parseMethodDescriptor yL_unring.desc).map (fun d => d.parameters.length) = some 4 := ⟨tw_984, by decide +kernel, by decide +kernel⟩
set_option maxHeartbeats 4000000 in
set_option maxRecDepth 100000 in
theorem z_unring {l : Launch} {g : EG} {ad ta : Nat → Nat} {R1 : va_W} {ao : Nat} {f : Nat → Int64} {σ σ1 : CS} {c0 v0 : Int32} {p0 p1 : Int32} (hl : l.stackTraces = false) (h : f_FC_unring p0 p1 σ = some ((c0, v0), σ1)) (hc : c0 = 0 ∨ c0 = 3 ∨ c0 = 1) (hφ2 : ph σ.2.2 ≤ BB) :
    Ct l g yL_unring (.codeWith yL_unring cL_unring 5 (some .int) [(0, 10, 13, 28), (0, 10, 17, 13)]) 14 326 (BB - ph σ.2.2 + 1) (2 * (BB - ph σ.2.2) + 6) (cw g ad ta σ ++ (R1 ++ [oWl g ao f])) [.ref (ad 0), .int p0, .int p1, .ref ao] (QZ g ad R1 ao (ph σ.2.2) (if c0 = 0 then 0 else if c0 = 3 then 1 else 2) σ1 (if c0 = 0 then vp_updL f 0 v0.toInt64 else f)) (ph σ1.2.2 - ph σ.2.2 + 1) (2 * (ph σ1.2.2 - ph σ.2.2) + 6) := by
  refine Ct.ofH rfl (by decide) (Nat.le_of_ble_eq_true rfl) ?_
  intro p e s m args below meth c A C hr htab
  refine nw_lv (lv' := [(0, .ref (ad 0)), (1, .int p0), (2, .int p1), (3, .ref ao)]) [0, 1, 2, 3] rfl ?_
  refine nw_aload_n C dL_unring_0 rfl 3 rfl ?_
  refine nw_iconst (v := 0) C dL_unring_1 (by decide) ?_
  refine nw_aload_n C dL_unring_2 rfl 0 rfl ?_
  refine nw_iload_n C dL_unring_3 rfl 1 rfl ?_
  refine nw_iload_n C dL_unring_4 rfl 2 rfl ?_
  refine nw_callVX (q0 := 0) (As := [.int p0, .int p1]) (rest := [.int 0, .ref ao]) C (c_FC_unring hl h hφ2) tw_986 kv_X11_unring cl_FC rfl ⟨Nat.le_of_ble_eq_true rfl, Nat.le_of_ble_eq_true rfl⟩ ⟨by show _ ≤ BB - ph σ.2.2 + 1; omega, by show _ ≤ 2 * (BB - ph σ.2.2) + 6; omega⟩ rfl dL_unring_5 rfl (Nat.le_of_ble_eq_true rfl) ?_ ?_
  · rintro w ws1 ⟨hc0, rfl, ⟨ta1, rfl⟩, h3, h4⟩
    have hc0 : c0 = 0 := hc0
    subst hc0
    refine nw_i2l C dL_unring_8 ?_
    refine nw_last C (60 + R1.length) oW_at dL_unring_9 (by unfold vp_in; decide) oW_set ?_
    refine nw_goto (tgt := 21) C dL_unring_10 (by decide) ?_
    refine nw_iconst (v := 0) C dL_unring_21 (by decide) ?_
    exact nw_iret C hr dL_unring_22 (Nat.le_of_eq (Nat.zero_add _)) (Nat.le_of_eq (Nat.zero_add _)) ⟨rfl, ⟨ta1, rfl⟩, h3, h4⟩
  · rintro E ws1 H1 locs1 ls q ce ⟨hc0, hE, ⟨ta1, rfl⟩, h3, h4⟩ hP hD hS hl2 hce hcv hcl
    have hc0 : ¬ c0 = 0 := hc0
    have hE : E = exN c0 := hE
    rcases hc with hc | hc | hc
    · exact absurd hc hc0
    · subst hc
      have hE : E = "java/lang/IndexOutOfBoundsException" := hE
      subst hE
      refine nw_catch (name := "java/lang/IndexOutOfBoundsException") C htab [] ⟨0, 10, 13, 28⟩ [⟨0, 10, 17, 13⟩] rfl (fun z hz => nomatch hz) (by decide) (by decide) tw_985 tw_996 hP hD hS hl2 hce hcv hcl ?_
      refine nw_astore (lv' := [(4, .ref q), (0, .ref (ad 0)), (1, .int p0), (2, .int p1), (3, .ref ao)]) C dL_unring_13 (by decide) rfl ?_
      refine nw_iconst (v := 1) C dL_unring_15 (by decide) ?_
      exact nw_iret C hr dL_unring_16 (Nat.le_of_eq (Nat.zero_add _)) (Nat.le_of_eq (Nat.zero_add _)) ⟨rfl, ⟨ta1, rfl⟩, h3, h4⟩
    · subst hc
      have hE : E = "java/lang/IllegalArgumentException" := hE
      subst hE
      refine nw_catch (name := "java/lang/IllegalArgumentException") C htab [⟨0, 10, 13, 28⟩] ⟨0, 10, 17, 13⟩ [] rfl (fun z hz => by rcases List.mem_singleton.mp hz with rfl; exact Or.inr ⟨by decide, "java/lang/IndexOutOfBoundsException", tw_985, nc1⟩) (by decide) (by decide) tw_669 tw_683 hP hD hS hl2 hce hcv hcl ?_
      refine nw_astore (lv' := [(4, .ref q), (0, .ref (ad 0)), (1, .int p0), (2, .int p1), (3, .ref ao)]) C dL_unring_17 (by decide) rfl ?_
      refine nw_iconst (v := 2) C dL_unring_19 (by decide) ?_
      exact nw_iret C hr dL_unring_20 (Nat.le_of_eq (Nat.zero_add _)) (Nat.le_of_eq (Nat.zero_add _)) ⟨rfl, ⟨ta1, rfl⟩, h3, h4⟩
theorem dL_strip_0 : decode cL_strip 0 = .ok (.aload_n 2, 1) := by decide +kernel
theorem dL_strip_1 : decode cL_strip 1 = .ok (.iconst 0, 1) := by decide +kernel
theorem dL_strip_2 : decode cL_strip 2 = .ok (.aload_n 0, 1) := by decide +kernel
theorem dL_strip_3 : decode cL_strip 3 = .ok (.iload_n 1, 1) := by decide +kernel
theorem dL_strip_4 : decode cL_strip 4 = .ok (.invokevirtual 30, 3) := by decide +kernel
theorem dL_strip_7 : decode cL_strip 7 = .ok (.i2l, 1) := by decide +kernel
theorem dL_strip_8 : decode cL_strip 8 = .ok (.lastore, 1) := by decide +kernel
theorem dL_strip_9 : decode cL_strip 9 = .ok (.goto 6, 3) := by decide +kernel
theorem dL_strip_12 : decode cL_strip 12 = .ok (.astore_n 3, 1) := by decide +kernel
theorem dL_strip_13 : decode cL_strip 13 = .ok (.iconst 1, 1) := by decide +kernel
theorem dL_strip_14 : decode cL_strip 14 = .ok (.ireturn, 1) := by decide +kernel
theorem dL_strip_15 : decode cL_strip 15 = .ok (.iconst 0, 1) := by decide +kernel
theorem dL_strip_16 : decode cL_strip 16 = .ok (.ireturn, 1) := by decide +kernel
theorem kh_L_strip : Cond.codeWith yL_strip cL_strip 4 (some .int) [(0, 9, 12, 13)] ∈ TT ∧ (yL_strip.cls ≠ "java/lang/invoke/MethodHandle" ∧ yL_strip.cls ≠ "java/lang/invoke/VarHandle") ∧ (parseMethodDescriptor yL_strip.desc).map (fun d => d.parameters.length) = some 3 := ⟨tw_1016, by decide +kernel, by decide +kernel⟩
set_option maxHeartbeats 4000000 in
set_option maxRecDepth 100000 in
theorem z_strip {l : Launch} {g : EG} {ad ta : Nat → Nat} {R1 : va_W} {ao : Nat} {f : Nat → Int64} {σ σ1 : CS} {c0 v0 : Int32} {p0 : Int32} (hl : l.stackTraces = false) (h : f_FC_strip p0 σ = some ((c0, v0), σ1)) (hc : c0 = 0 ∨ c0 = 1) (hφ2 : ph σ.2.2 ≤ BB) :
    Ct l g yL_strip (.codeWith yL_strip cL_strip 4 (some .int) [(0, 9, 12, 13)]) 14 326 (BB - ph σ.2.2 + 1) (2 * (BB - ph σ.2.2) + 6) (cw g ad ta σ ++ (R1 ++ [oWl g ao f])) [.ref (ad 0), .int p0, .ref ao] (QZ g ad R1 ao (ph σ.2.2) (if c0 = 0 then 0 else 1) σ1 (if c0 = 0 then vp_updL f 0 v0.toInt64 else f)) (ph σ1.2.2 - ph σ.2.2 + 1) (2 * (ph σ1.2.2 - ph σ.2.2) + 6) := by
  refine Ct.ofH rfl (by decide) (Nat.le_of_ble_eq_true rfl) ?_
  intro p e s m args below meth c A C hr htab
  refine nw_lv (lv' := [(0, .ref (ad 0)), (1, .int p0), (2, .ref ao)]) [0, 1, 2] rfl ?_
  refine nw_aload_n C dL_strip_0 rfl 2 rfl ?_
  refine nw_iconst (v := 0) C dL_strip_1 (by decide) ?_
  refine nw_aload_n C dL_strip_2 rfl 0 rfl ?_
  refine nw_iload_n C dL_strip_3 rfl 1 rfl ?_
  refine nw_callVX (q0 := 0) (As := [.int p0]) (rest := [.int 0, .ref ao]) C (c_FC_strip hl h hφ2) tw_1017 kv_X11_strip cl_FC rfl ⟨Nat.le_of_ble_eq_true rfl, Nat.le_of_ble_eq_true rfl⟩ ⟨by show _ ≤ BB - ph σ.2.2 + 1; omega, by show _ ≤ 2 * (BB - ph σ.2.2) + 6; omega⟩ rfl dL_strip_4 rfl (Nat.le_of_ble_eq_true rfl) ?_ ?_
  · rintro w ws1 ⟨hc0, rfl, ⟨ta1, rfl⟩, h3, h4⟩
    have hc0 : c0 = 0 := hc0
    subst hc0
    refine nw_i2l C dL_strip_7 ?_
    refine nw_last C (60 + R1.length) oW_at dL_strip_8 (by unfold vp_in; decide) oW_set ?_
    refine nw_goto (tgt := 15) C dL_strip_9 (by decide) ?_
    refine nw_iconst (v := 0) C dL_strip_15 (by decide) ?_
    exact nw_iret C hr dL_strip_16 (Nat.le_of_eq (Nat.zero_add _)) (Nat.le_of_eq (Nat.zero_add _)) ⟨rfl, ⟨ta1, rfl⟩, h3, h4⟩
  · rintro E ws1 H1 locs1 ls q ce ⟨hc0, hE, ⟨ta1, rfl⟩, h3, h4⟩ hP hD hS hl2 hce hcv hcl
    have hc0 : ¬ c0 = 0 := hc0
    have hE : E = exN c0 := hE
    rcases hc with hc | hc
    · exact absurd hc hc0
    · subst hc
      have hE : E = "java/lang/IllegalArgumentException" := hE
      subst hE
      refine nw_catch (name := "java/lang/IllegalArgumentException") C htab [] ⟨0, 9, 12, 13⟩ [] rfl (fun z hz => nomatch hz) (by decide) (by decide) tw_669 tw_683 hP hD hS hl2 hce hcv hcl ?_
      refine nw_astore_n (lv' := [(3, .ref q), (0, .ref (ad 0)), (1, .int p0), (2, .ref ao)]) C dL_strip_12 rfl (by decide) rfl ?_
      refine nw_iconst (v := 1) C dL_strip_13 (by decide) ?_
      exact nw_iret C hr dL_strip_14 (Nat.le_of_eq (Nat.zero_add _)) (Nat.le_of_eq (Nat.zero_add _)) ⟨rfl, ⟨ta1, rfl⟩, h3, h4⟩
theorem dL_bounds_0 : decode cL_bounds 0 = .ok (.aload_n 2, 1) := by decide +kernel
theorem dL_bounds_1 : decode cL_bounds 1 = .ok (.iconst 0, 1) := by decide +kernel
theorem dL_bounds_2 : decode cL_bounds 2 = .ok (.aload_n 0, 1) := by decide +kernel
theorem dL_bounds_3 : decode cL_bounds 3 = .ok (.iload_n 1, 1) := by decide +kernel
theorem dL_bounds_4 : decode cL_bounds 4 = .ok (.invokevirtual 33, 3) := by decide +kernel
theorem dL_bounds_7 : decode cL_bounds 7 = .ok (.i2l, 1) := by decide +kernel
theorem dL_bounds_8 : decode cL_bounds 8 = .ok (.lastore, 1) := by decide +kernel
theorem dL_bounds_9 : decode cL_bounds 9 = .ok (.goto 6, 3) := by decide +kernel
theorem dL_bounds_12 : decode cL_bounds 12 = .ok (.astore_n 3, 1) := by decide +kernel
theorem dL_bounds_13 : decode cL_bounds 13 = .ok (.iconst 1, 1) := by decide +kernel
theorem dL_bounds_14 : decode cL_bounds 14 = .ok (.ireturn, 1) := by decide +kernel
theorem dL_bounds_15 : decode cL_bounds 15 = .ok (.iconst 0, 1) := by decide +kernel
theorem dL_bounds_16 : decode cL_bounds 16 = .ok (.ireturn, 1) := by decide +kernel
theorem kh_L_bounds : Cond.codeWith yL_bounds cL_bounds 4 (some .int) [(0, 9, 12, 13)] ∈ TT ∧ (yL_bounds.cls ≠ "java/lang/invoke/MethodHandle" ∧ yL_bounds.cls ≠ "java/lang/invoke/VarHandle") ∧ (parseMethodDescriptor yL_bounds.desc).map (fun d => d.parameters.length) = some 3 := ⟨tw_1023, by decide +kernel, by decide +kernel⟩
set_option maxHeartbeats 4000000 in
set_option maxRecDepth 100000 in
theorem z_bounds {l : Launch} {g : EG} {ad ta : Nat → Nat} {R1 : va_W} {ao : Nat} {f : Nat → Int64} {σ σ1 : CS} {c0 v0 : Int32} {p0 : Int32} (hl : l.stackTraces = false) (h : f_FC_bounds p0 σ = some ((c0, v0), σ1)) (hc : c0 = 0 ∨ c0 = 1) (hφ2 : ph σ.2.2 ≤ BB) :
    Ct l g yL_bounds (.codeWith yL_bounds cL_bounds 4 (some .int) [(0, 9, 12, 13)]) 14 325 (BB - ph σ.2.2 + 1) (2 * (BB - ph σ.2.2) + 6) (cw g ad ta σ ++ (R1 ++ [oWl g ao f])) [.ref (ad 0), .int p0, .ref ao] (QZ g ad R1 ao (ph σ.2.2) (if c0 = 0 then 0 else 1) σ1 (if c0 = 0 then vp_updL f 0 v0.toInt64 else f)) (ph σ1.2.2 - ph σ.2.2 + 1) (2 * (ph σ1.2.2 - ph σ.2.2) + 6) := by
  refine Ct.ofH rfl (by decide) (Nat.le_of_ble_eq_true rfl) ?_
  intro p e s m args below meth c A C hr htab
  refine nw_lv (lv' := [(0, .ref (ad 0)), (1, .int p0), (2, .ref ao)]) [0, 1, 2] rfl ?_
  refine nw_aload_n C dL_bounds_0 rfl 2 rfl ?_
  refine nw_iconst (v := 0) C dL_bounds_1 (by decide) ?_
  refine nw_aload_n C dL_bounds_2 rfl 0 rfl ?_
  refine nw_iload_n C dL_bounds_3 rfl 1 rfl ?_
  refine nw_callVX (q0 := 0) (As := [.int p0]) (rest := [.int 0, .ref ao]) C (c_FC_bounds hl h hφ2) tw_1024 kv_X11_bounds cl_FC rfl ⟨Nat.le_of_ble_eq_true rfl, Nat.le_of_ble_eq_true rfl⟩ ⟨by show _ ≤ BB - ph σ.2.2 + 1; omega, by show _ ≤ 2 * (BB - ph σ.2.2) + 6; omega⟩ rfl dL_bounds_4 rfl (Nat.le_of_ble_eq_true rfl) ?_ ?_
  · rintro w ws1 ⟨hc0, rfl, ⟨ta1, rfl⟩, h3, h4⟩
    have hc0 : c0 = 0 := hc0
    subst hc0
    refine nw_i2l C dL_bounds_7 ?_
    refine nw_last C (60 + R1.length) oW_at dL_bounds_8 (by unfold vp_in; decide) oW_set ?_
    refine nw_goto (tgt := 15) C dL_bounds_9 (by decide) ?_
    refine nw_iconst (v := 0) C dL_bounds_15 (by decide) ?_
    exact nw_iret C hr dL_bounds_16 (Nat.le_of_eq (Nat.zero_add _)) (Nat.le_of_eq (Nat.zero_add _)) ⟨rfl, ⟨ta1, rfl⟩, h3, h4⟩
  · rintro E ws1 H1 locs1 ls q ce ⟨hc0, hE, ⟨ta1, rfl⟩, h3, h4⟩ hP hD hS hl2 hce hcv hcl
    have hc0 : ¬ c0 = 0 := hc0
    have hE : E = exN c0 := hE
    rcases hc with hc | hc
    · exact absurd hc hc0
    · subst hc
      have hE : E = "java/lang/IllegalArgumentException" := hE
      subst hE
      refine nw_catch (name := "java/lang/IllegalArgumentException") C htab [] ⟨0, 9, 12, 13⟩ [] rfl (fun z hz => nomatch hz) (by decide) (by decide) tw_669 tw_683 hP hD hS hl2 hce hcv hcl ?_
      refine nw_astore_n (lv' := [(3, .ref q), (0, .ref (ad 0)), (1, .int p0), (2, .ref ao)]) C dL_bounds_12 rfl (by decide) rfl ?_
      refine nw_iconst (v := 1) C dL_bounds_13 (by decide) ?_
      exact nw_iret C hr dL_bounds_14 (Nat.le_of_eq (Nat.zero_add _)) (Nat.le_of_eq (Nat.zero_add _)) ⟨rfl, ⟨ta1, rfl⟩, h3, h4⟩
theorem dL_where_0 : decode cL_where 0 = .ok (.aload 4, 2) := by decide +kernel
theorem dL_where_2 : decode cL_where 2 = .ok (.iconst 0, 1) := by decide +kernel
theorem dL_where_3 : decode cL_where 3 = .ok (.aload_n 0, 1) := by decide +kernel
theorem dL_where_4 : decode cL_where 4 = .ok (.iload_n 1, 1) := by decide +kernel
theorem dL_where_5 : decode cL_where 5 = .ok (.iload_n 2, 1) := by decide +kernel
theorem dL_where_6 : decode cL_where 6 = .ok (.iload_n 3, 1) := by decide +kernel
theorem dL_where_7 : decode cL_where 7 = .ok (.invokevirtual 36, 3) := by decide +kernel
theorem dL_where_10 : decode cL_where 10 = .ok (.i2l, 1) := by decide +kernel
theorem dL_where_11 : decode cL_where 11 = .ok (.lastore, 1) := by decide +kernel
theorem dL_where_12 : decode cL_where 12 = .ok (.goto 7, 3) := by decide +kernel
theorem dL_where_15 : decode cL_where 15 = .ok (.astore 5, 2) := by decide +kernel
theorem dL_where_17 : decode cL_where 17 = .ok (.iconst 1, 1) := by decide +kernel
theorem dL_where_18 : decode cL_where 18 = .ok (.ireturn, 1) := by decide +kernel
theorem dL_where_19 : decode cL_where 19 = .ok (.iconst 0, 1) := by decide +kernel
theorem dL_where_20 : decode cL_where 20 = .ok (.ireturn, 1) := by decide +kernel
theorem kh_L_where : Cond.codeWith yL_where cL_where 6 (some .int) [(0, 12, 15, 13)] ∈ TT ∧ (yL_where.cls ≠ "java/lang/invoke/MethodHandle" ∧ yL_where.cls ≠ "java/lang/invoke/VarHandle") ∧ (parseMethodDescriptor yL_where.desc).map (fun d => d.parameters.length) = some 5 := ⟨tw_1031, by decide +kernel, by decide +kernel⟩
set_option maxHeartbeats 4000000 in
set_option maxRecDepth 100000 in
theorem z_where {l : Launch} {g : EG} {ad ta : Nat → Nat} {R1 : va_W} {ao : Nat} {f : Nat → Int64} {σ σ1 : CS} {c0 v0 : Int32} {p0 p1 p2 : Int32} (hl : l.stackTraces = false) (h : f_FC_where p0 p1 p2 σ = some ((c0, v0), σ1)) (hc : c0 = 0 ∨ c0 = 1) (hφ2 : ph σ.2.2 ≤ BB) :
    Ct l g yL_where (.codeWith yL_where cL_where 6 (some .int) [(0, 12, 15, 13)]) 14 327 (BB - ph σ.2.2 + 1) (2 * (BB - ph σ.2.2) + 6) (cw g ad ta σ ++ (R1 ++ [oWl g ao f])) [.ref (ad 0), .int p0, .int p1, .int p2, .ref ao] (QZ g ad R1 ao (ph σ.2.2) (if c0 = 0 then 0 else 1) σ1 (if c0 = 0 then vp_updL f 0 v0.toInt64 else f)) (ph σ1.2.2 - ph σ.2.2 + 1) (2 * (ph σ1.2.2 - ph σ.2.2) + 6) := by
  refine Ct.ofH rfl (by decide) (Nat.le_of_ble_eq_true rfl) ?_
  intro p e s m args below meth c A C hr htab
  refine nw_lv (lv' := [(0, .ref (ad 0)), (1, .int p0), (2, .int p1), (3, .int p2), (4, .ref ao)]) [0, 1, 2, 3, 4] rfl ?_
  refine nw_aload C dL_where_0 4 rfl ?_
  refine nw_iconst (v := 0) C dL_where_2 (by decide) ?_
  refine nw_aload_n C dL_where_3 rfl 0 rfl ?_
  refine nw_iload_n C dL_where_4 rfl 1 rfl ?_
  refine nw_iload_n C dL_where_5 rfl 2 rfl ?_
  refine nw_iload_n C dL_where_6 rfl 3 rfl ?_
  refine nw_callVX (q0 := 0) (As := [.int p0, .int p1, .int p2]) (rest := [.int 0, .ref ao]) C (c_FC_where hl h hφ2) tw_1032 kv_X11_where cl_FC rfl ⟨Nat.le_of_ble_eq_true rfl, Nat.le_of_ble_eq_true rfl⟩ ⟨by show _ ≤ BB - ph σ.2.2 + 1; omega, by show _ ≤ 2 * (BB - ph σ.2.2) + 6; omega⟩ rfl dL_where_7 rfl (Nat.le_of_ble_eq_true rfl) ?_ ?_
  · rintro w ws1 ⟨hc0, rfl, ⟨ta1, rfl⟩, h3, h4⟩
    have hc0 : c0 = 0 := hc0
    subst hc0
    refine nw_i2l C dL_where_10 ?_
    refine nw_last C (60 + R1.length) oW_at dL_where_11 (by unfold vp_in; decide) oW_set ?_
    refine nw_goto (tgt := 19) C dL_where_12 (by decide) ?_
    refine nw_iconst (v := 0) C dL_where_19 (by decide) ?_
    exact nw_iret C hr dL_where_20 (Nat.le_of_eq (Nat.zero_add _)) (Nat.le_of_eq (Nat.zero_add _)) ⟨rfl, ⟨ta1, rfl⟩, h3, h4⟩
  · rintro E ws1 H1 locs1 ls q ce ⟨hc0, hE, ⟨ta1, rfl⟩, h3, h4⟩ hP hD hS hl2 hce hcv hcl
    have hc0 : ¬ c0 = 0 := hc0
    have hE : E = exN c0 := hE
    rcases hc with hc | hc
    · exact absurd hc hc0
    · subst hc
      have hE : E = "java/lang/IllegalArgumentException" := hE
      subst hE
      refine nw_catch (name := "java/lang/IllegalArgumentException") C htab [] ⟨0, 12, 15, 13⟩ [] rfl (fun z hz => nomatch hz) (by decide) (by decide) tw_669 tw_683 hP hD hS hl2 hce hcv hcl ?_
      refine nw_astore (lv' := [(5, .ref q), (0, .ref (ad 0)), (1, .int p0), (2, .int p1), (3, .int p2), (4, .ref ao)]) C dL_where_15 (by decide) rfl ?_
      refine nw_iconst (v := 1) C dL_where_17 (by decide) ?_
      exact nw_iret C hr dL_where_18 (Nat.le_of_eq (Nat.zero_add _)) (Nat.le_of_eq (Nat.zero_add _)) ⟨rfl, ⟨ta1, rfl⟩, h3, h4⟩
theorem dL_walk_0 : decode cL_walk 0 = .ok (.aload_n 2, 1) := by decide +kernel
theorem dL_walk_1 : decode cL_walk 1 = .ok (.iconst 0, 1) := by decide +kernel
theorem dL_walk_2 : decode cL_walk 2 = .ok (.aload_n 0, 1) := by decide +kernel
theorem dL_walk_3 : decode cL_walk 3 = .ok (.iload_n 1, 1) := by decide +kernel
theorem dL_walk_4 : decode cL_walk 4 = .ok (.invokevirtual 39, 3) := by decide +kernel
theorem dL_walk_7 : decode cL_walk 7 = .ok (.i2l, 1) := by decide +kernel
theorem dL_walk_8 : decode cL_walk 8 = .ok (.lastore, 1) := by decide +kernel
theorem dL_walk_9 : decode cL_walk 9 = .ok (.goto 6, 3) := by decide +kernel
theorem dL_walk_12 : decode cL_walk 12 = .ok (.astore_n 3, 1) := by decide +kernel
theorem dL_walk_13 : decode cL_walk 13 = .ok (.iconst 1, 1) := by decide +kernel
theorem dL_walk_14 : decode cL_walk 14 = .ok (.ireturn, 1) := by decide +kernel
theorem dL_walk_15 : decode cL_walk 15 = .ok (.iconst 0, 1) := by decide +kernel
theorem dL_walk_16 : decode cL_walk 16 = .ok (.ireturn, 1) := by decide +kernel
theorem kh_L_walk : Cond.codeWith yL_walk cL_walk 4 (some .int) [(0, 9, 12, 13)] ∈ TT ∧ (yL_walk.cls ≠ "java/lang/invoke/MethodHandle" ∧ yL_walk.cls ≠ "java/lang/invoke/VarHandle") ∧ (parseMethodDescriptor yL_walk.desc).map (fun d => d.parameters.length) = some 3 := ⟨tw_1039, by decide +kernel, by decide +kernel⟩
set_option maxHeartbeats 4000000 in
set_option maxRecDepth 100000 in
theorem z_walk {l : Launch} {g : EG} {ad ta : Nat → Nat} {R1 : va_W} {ao : Nat} {f : Nat → Int64} {σ σ1 : CS} {c0 v0 : Int32} {p0 : Int32} (hl : l.stackTraces = false) (h : f_FC_walk p0 σ = some ((c0, v0), σ1)) (hc : c0 = 0 ∨ c0 = 1) (hφ2 : ph σ.2.2 ≤ BB) :
    Ct l g yL_walk (.codeWith yL_walk cL_walk 4 (some .int) [(0, 9, 12, 13)]) 163 6468 (BB - ph σ.2.2 + 1) (2 * (BB - ph σ.2.2) + 6) (cw g ad ta σ ++ (R1 ++ [oWl g ao f])) [.ref (ad 0), .int p0, .ref ao] (QZ g ad R1 ao (ph σ.2.2) (if c0 = 0 then 0 else 1) σ1 (if c0 = 0 then vp_updL f 0 v0.toInt64 else f)) (ph σ1.2.2 - ph σ.2.2 + 1) (2 * (ph σ1.2.2 - ph σ.2.2) + 6) := by
  refine Ct.ofH rfl (by decide) (Nat.le_of_ble_eq_true rfl) ?_
  intro p e s m args below meth c A C hr htab
  refine nw_lv (lv' := [(0, .ref (ad 0)), (1, .int p0), (2, .ref ao)]) [0, 1, 2] rfl ?_
  refine nw_aload_n C dL_walk_0 rfl 2 rfl ?_
  refine nw_iconst (v := 0) C dL_walk_1 (by decide) ?_
  refine nw_aload_n C dL_walk_2 rfl 0 rfl ?_
  refine nw_iload_n C dL_walk_3 rfl 1 rfl ?_
  refine nw_callVX (q0 := 0) (As := [.int p0]) (rest := [.int 0, .ref ao]) C (c_FC_walk hl h hφ2) tw_1040 kv_X11_walk cl_FC rfl ⟨Nat.le_of_ble_eq_true rfl, Nat.le_of_ble_eq_true rfl⟩ ⟨by show _ ≤ BB - ph σ.2.2 + 1; omega, by show _ ≤ 2 * (BB - ph σ.2.2) + 6; omega⟩ rfl dL_walk_4 rfl (Nat.le_of_ble_eq_true rfl) ?_ ?_
  · rintro w ws1 ⟨hc0, rfl, ⟨ta1, rfl⟩, h3, h4⟩
    have hc0 : c0 = 0 := hc0
    subst hc0
    refine nw_i2l C dL_walk_7 ?_
    refine nw_last C (60 + R1.length) oW_at dL_walk_8 (by unfold vp_in; decide) oW_set ?_
    refine nw_goto (tgt := 15) C dL_walk_9 (by decide) ?_
    refine nw_iconst (v := 0) C dL_walk_15 (by decide) ?_
    exact nw_iret C hr dL_walk_16 (Nat.le_of_eq (Nat.zero_add _)) (Nat.le_of_eq (Nat.zero_add _)) ⟨rfl, ⟨ta1, rfl⟩, h3, h4⟩
  · rintro E ws1 H1 locs1 ls q ce ⟨hc0, hE, ⟨ta1, rfl⟩, h3, h4⟩ hP hD hS hl2 hce hcv hcl
    have hc0 : ¬ c0 = 0 := hc0
    have hE : E = exN c0 := hE
    rcases hc with hc | hc
    · exact absurd hc hc0
    · subst hc
      have hE : E = "java/lang/IllegalArgumentException" := hE
      subst hE
      refine nw_catch (name := "java/lang/IllegalArgumentException") C htab [] ⟨0, 9, 12, 13⟩ [] rfl (fun z hz => nomatch hz) (by decide) (by decide) tw_669 tw_683 hP hD hS hl2 hce hcv hcl ?_
      refine nw_astore_n (lv' := [(3, .ref q), (0, .ref (ad 0)), (1, .int p0), (2, .ref ao)]) C dL_walk_12 rfl (by decide) rfl ?_
      refine nw_iconst (v := 1) C dL_walk_13 (by decide) ?_
      exact nw_iret C hr dL_walk_14 (Nat.le_of_eq (Nat.zero_add _)) (Nat.le_of_eq (Nat.zero_add _)) ⟨rfl, ⟨ta1, rfl⟩, h3, h4⟩
theorem dL_text_0 : decode cL_text 0 = .ok (.aload_n 3, 1) := by decide +kernel
theorem dL_text_1 : decode cL_text 1 = .ok (.iconst 0, 1) := by decide +kernel
theorem dL_text_2 : decode cL_text 2 = .ok (.aload_n 0, 1) := by decide +kernel
theorem dL_text_3 : decode cL_text 3 = .ok (.iload_n 1, 1) := by decide +kernel
theorem dL_text_4 : decode cL_text 4 = .ok (.iload_n 2, 1) := by decide +kernel
theorem dL_text_5 : decode cL_text 5 = .ok (.invokevirtual 42, 3) := by decide +kernel
theorem dL_text_8 : decode cL_text 8 = .ok (.i2l, 1) := by decide +kernel
theorem dL_text_9 : decode cL_text 9 = .ok (.lastore, 1) := by decide +kernel
theorem dL_text_10 : decode cL_text 10 = .ok (.goto 7, 3) := by decide +kernel
theorem dL_text_13 : decode cL_text 13 = .ok (.astore 4, 2) := by decide +kernel
theorem dL_text_15 : decode cL_text 15 = .ok (.iconst 1, 1) := by decide +kernel
theorem dL_text_16 : decode cL_text 16 = .ok (.ireturn, 1) := by decide +kernel
theorem dL_text_17 : decode cL_text 17 = .ok (.iconst 0, 1) := by decide +kernel
theorem dL_text_18 : decode cL_text 18 = .ok (.ireturn, 1) := by decide +kernel
theorem kh_L_text : Cond.codeWith yL_text cL_text 5 (some .int) [(0, 10, 13, 13)] ∈ TT ∧ (yL_text.cls ≠ "java/lang/invoke/MethodHandle" ∧ yL_text.cls ≠ "java/lang/invoke/VarHandle") ∧ (parseMethodDescriptor yL_text.desc).map (fun d => d.parameters.length) = some 4 := ⟨tw_1067, by decide +kernel, by decide +kernel⟩
set_option maxHeartbeats 4000000 in
set_option maxRecDepth 100000 in
theorem z_text {l : Launch} {g : EG} {ad ta : Nat → Nat} {R1 : va_W} {ao : Nat} {f : Nat → Int64} {σ σ1 : CS} {c0 v0 : Int32} {p0 p1 : Int32} (hl : l.stackTraces = false) (h : f_FC_text p0 p1 σ = some ((c0, v0), σ1)) (hc : c0 = 0 ∨ c0 = 1) (hφ2 : ph σ.2.2 ≤ BB) :
    Ct l g yL_text (.codeWith yL_text cL_text 5 (some .int) [(0, 10, 13, 13)]) 1004 40096 (BB - ph σ.2.2 + 1) (2 * (BB - ph σ.2.2) + 6) (cw g ad ta σ ++ (R1 ++ [oWl g ao f])) [.ref (ad 0), .int p0, .int p1, .ref ao] (QZ g ad R1 ao (ph σ.2.2) (if c0 = 0 then 0 else 1) σ1 (if c0 = 0 then vp_updL f 0 v0.toInt64 else f)) (ph σ1.2.2 - ph σ.2.2 + 1) (2 * (ph σ1.2.2 - ph σ.2.2) + 6) := by
  refine Ct.ofH rfl (by decide) (Nat.le_of_ble_eq_true rfl) ?_
  intro p e s m args below meth c A C hr htab
  refine nw_lv (lv' := [(0, .ref (ad 0)), (1, .int p0), (2, .int p1), (3, .ref ao)]) [0, 1, 2, 3] rfl ?_
  refine nw_aload_n C dL_text_0 rfl 3 rfl ?_
  refine nw_iconst (v := 0) C dL_text_1 (by decide) ?_
  refine nw_aload_n C dL_text_2 rfl 0 rfl ?_
  refine nw_iload_n C dL_text_3 rfl 1 rfl ?_
  refine nw_iload_n C dL_text_4 rfl 2 rfl ?_
  refine nw_callVX (q0 := 0) (As := [.int p0, .int p1]) (rest := [.int 0, .ref ao]) C (c_FC_text hl h hφ2) tw_1068 kv_X11_text cl_FC rfl ⟨Nat.le_of_ble_eq_true rfl, Nat.le_of_ble_eq_true rfl⟩ ⟨by show _ ≤ BB - ph σ.2.2 + 1; omega, by show _ ≤ 2 * (BB - ph σ.2.2) + 6; omega⟩ rfl dL_text_5 rfl (Nat.le_of_ble_eq_true rfl) ?_ ?_
  · rintro w ws1 ⟨hc0, rfl, ⟨ta1, rfl⟩, h3, h4⟩
    have hc0 : c0 = 0 := hc0
    subst hc0
    refine nw_i2l C dL_text_8 ?_
    refine nw_last C (60 + R1.length) oW_at dL_text_9 (by unfold vp_in; decide) oW_set ?_
    refine nw_goto (tgt := 17) C dL_text_10 (by decide) ?_
    refine nw_iconst (v := 0) C dL_text_17 (by decide) ?_
    exact nw_iret C hr dL_text_18 (Nat.le_of_eq (Nat.zero_add _)) (Nat.le_of_eq (Nat.zero_add _)) ⟨rfl, ⟨ta1, rfl⟩, h3, h4⟩
  · rintro E ws1 H1 locs1 ls q ce ⟨hc0, hE, ⟨ta1, rfl⟩, h3, h4⟩ hP hD hS hl2 hce hcv hcl
    have hc0 : ¬ c0 = 0 := hc0
    have hE : E = exN c0 := hE
    rcases hc with hc | hc
    · exact absurd hc hc0
    · subst hc
      have hE : E = "java/lang/IllegalArgumentException" := hE
      subst hE
      refine nw_catch (name := "java/lang/IllegalArgumentException") C htab [] ⟨0, 10, 13, 13⟩ [] rfl (fun z hz => nomatch hz) (by decide) (by decide) tw_669 tw_683 hP hD hS hl2 hce hcv hcl ?_
      refine nw_astore (lv' := [(4, .ref q), (0, .ref (ad 0)), (1, .int p0), (2, .int p1), (3, .ref ao)]) C dL_text_13 (by decide) rfl ?_
      refine nw_iconst (v := 1) C dL_text_15 (by decide) ?_
      exact nw_iret C hr dL_text_16 (Nat.le_of_eq (Nat.zero_add _)) (Nat.le_of_eq (Nat.zero_add _)) ⟨rfl, ⟨ta1, rfl⟩, h3, h4⟩
theorem dL_force_0 : decode cL_force 0 = .ok (.aload_n 3, 1) := by decide +kernel
theorem dL_force_1 : decode cL_force 1 = .ok (.iconst 0, 1) := by decide +kernel
theorem dL_force_2 : decode cL_force 2 = .ok (.aload_n 0, 1) := by decide +kernel
theorem dL_force_3 : decode cL_force 3 = .ok (.iload_n 1, 1) := by decide +kernel
theorem dL_force_4 : decode cL_force 4 = .ok (.iload_n 2, 1) := by decide +kernel
theorem dL_force_5 : decode cL_force 5 = .ok (.invokevirtual 45, 3) := by decide +kernel
theorem dL_force_8 : decode cL_force 8 = .ok (.ifCond .eq 7, 3) := by decide +kernel
theorem dL_force_11 : decode cL_force 11 = .ok (.lconst 1, 1) := by decide +kernel
theorem dL_force_12 : decode cL_force 12 = .ok (.goto 4, 3) := by decide +kernel
theorem dL_force_15 : decode cL_force 15 = .ok (.lconst 0, 1) := by decide +kernel
theorem dL_force_16 : decode cL_force 16 = .ok (.lastore, 1) := by decide +kernel
theorem dL_force_17 : decode cL_force 17 = .ok (.goto 11, 3) := by decide +kernel
theorem dL_force_20 : decode cL_force 20 = .ok (.astore 4, 2) := by decide +kernel
theorem dL_force_22 : decode cL_force 22 = .ok (.iconst 1, 1) := by decide +kernel
theorem dL_force_23 : decode cL_force 23 = .ok (.ireturn, 1) := by decide +kernel
theorem dL_force_24 : decode cL_force 24 = .ok (.astore 4, 2) := by decide +kernel
theorem dL_force_26 : decode cL_force 26 = .ok (.iconst 2, 1) := by decide +kernel
theorem dL_force_27 : decode cL_force 27 = .ok (.ireturn, 1) := by decide +kernel
theorem dL_force_28 : decode cL_force 28 = .ok (.iconst 0, 1) := by decide +kernel
theorem dL_force_29 : decode cL_force 29 = .ok (.ireturn, 1) := by decide +kernel
theorem kh_L_force : Cond.codeWith yL_force cL_force 5 (some .int) [(0, 17, 20, 28), (0, 17, 24, 13)] ∈ TT ∧ (yL_force.cls ≠ "java/lang/invoke/MethodHandle" ∧ yL_force.cls ≠ "java/lang/invoke/VarHandle") ∧ (parseMethodDescriptor yL_force.desc).map (fun d => d.parameters.length) = some 4 := ⟨tw_1247, by decide +kernel, by decide +kernel⟩
set_option maxHeartbeats 4000000 in
set_option maxRecDepth 100000 in
theorem z_force {l : Launch} {g : EG} {ad ta : Nat → Nat} {R1 : va_W} {ao : Nat} {f : Nat → Int64} {σ σ1 : CS} {c0 v0 : Int32} {p0 p1 : Int32} (hl : l.stackTraces = false) (h : f_FC_force p0 p1 σ = some ((c0, v0), σ1)) (hc : c0 = 0 ∨ c0 = 3 ∨ c0 = 1) (hφ2 : ph σ.2.2 ≤ BB) :
    Ct l g yL_force (.codeWith yL_force cL_force 5 (some .int) [(0, 17, 20, 28), (0, 17, 24, 13)]) 14 326 (BB - ph σ.2.2 + 1) (2 * (BB - ph σ.2.2) + 6) (cw g ad ta σ ++ (R1 ++ [oWl g ao f])) [.ref (ad 0), .int p0, .int p1, .ref ao] (QZ g ad R1 ao (ph σ.2.2) (if c0 = 0 then 0 else if c0 = 3 then 1 else 2) σ1 (if c0 = 0 then vp_updL f 0 (if v0 = 0 then 0 else 1) else f)) (ph σ1.2.2 - ph σ.2.2 + 1) (2 * (ph σ1.2.2 - ph σ.2.2) + 6) := by
  refine Ct.ofH rfl (by decide) (Nat.le_of_ble_eq_true rfl) ?_
  intro p e s m args below meth c A C hr htab
  refine nw_lv (lv' := [(0, .ref (ad 0)), (1, .int p0), (2, .int p1), (3, .ref ao)]) [0, 1, 2, 3] rfl ?_
  refine nw_aload_n C dL_force_0 rfl 3 rfl ?_
  refine nw_iconst (v := 0) C dL_force_1 (by decide) ?_
  refine nw_aload_n C dL_force_2 rfl 0 rfl ?_
  refine nw_iload_n C dL_force_3 rfl 1 rfl ?_
  refine nw_iload_n C dL_force_4 rfl 2 rfl ?_
  refine nw_callVX (q0 := 0) (As := [.int p0, .int p1]) (rest := [.int 0, .ref ao]) C (c_FC_force hl h hφ2) tw_1248 kv_X11_force cl_FC rfl ⟨Nat.le_of_ble_eq_true rfl, Nat.le_of_ble_eq_true rfl⟩ ⟨by show _ ≤ BB - ph σ.2.2 + 1; omega, by show _ ≤ 2 * (BB - ph σ.2.2) + 6; omega⟩ rfl dL_force_5 rfl (Nat.le_of_ble_eq_true rfl) ?_ ?_
  · rintro w ws1 ⟨hc0, rfl, ⟨ta1, rfl⟩, h3, h4⟩
    have hc0 : c0 = 0 := hc0
    subst hc0
    have h9 : (if v0 = 0 then some 1 else some 2) = some (if v0 = 0 then 1 else 2) := by split <;> rfl
    refine nw_if_eq (tgt := 15) C dL_force_8 (by decide) h9 (fun hv _ => ?_) (fun hv _ => ?_)
    · refine nw_lconst (v := 0) C dL_force_15 (by decide) ?_
      refine nw_last C (60 + R1.length) oW_at dL_force_16 (by unfold vp_in; decide) oW_set ?_
      refine nw_goto (tgt := 28) C dL_force_17 (by decide) ?_
      refine nw_iconst (v := 0) C dL_force_28 (by decide) ?_
      exact nw_iret C hr dL_force_29 (Nat.le_of_eq (Nat.zero_add _)) (Nat.le_of_eq (Nat.zero_add _)) ⟨rfl, ⟨ta1, by rw [if_pos rfl, if_pos hv]; rfl⟩, h3, h4⟩
    · refine nw_lconst (v := 1) C dL_force_11 (by decide) ?_
      refine nw_goto (tgt := 16) C dL_force_12 (by decide) ?_
      refine nw_last C (60 + R1.length) oW_at dL_force_16 (by unfold vp_in; decide) oW_set ?_
      refine nw_goto (tgt := 28) C dL_force_17 (by decide) ?_
      refine nw_iconst (v := 0) C dL_force_28 (by decide) ?_
      exact nw_iret C hr dL_force_29 (Nat.le_of_eq (Nat.zero_add _)) (Nat.le_of_eq (Nat.zero_add _)) ⟨rfl, ⟨ta1, by rw [if_pos rfl, if_neg hv]; rfl⟩, h3, h4⟩
  · rintro E ws1 H1 locs1 ls q ce ⟨hc0, hE, ⟨ta1, rfl⟩, h3, h4⟩ hP hD hS hl2 hce hcv hcl
    have hc0 : ¬ c0 = 0 := hc0
    have hE : E = exN c0 := hE
    rcases hc with hc | hc | hc
    · exact absurd hc hc0
    · subst hc
      have hE : E = "java/lang/IndexOutOfBoundsException" := hE
      subst hE
      refine nw_catch (name := "java/lang/IndexOutOfBoundsException") C htab [] ⟨0, 17, 20, 28⟩ [⟨0, 17, 24, 13⟩] rfl (fun z hz => nomatch hz) (by decide) (by decide) tw_985 tw_996 hP hD hS hl2 hce hcv hcl ?_
      refine nw_astore (lv' := [(4, .ref q), (0, .ref (ad 0)), (1, .int p0), (2, .int p1), (3, .ref ao)]) C dL_force_20 (by decide) rfl ?_
      refine nw_iconst (v := 1) C dL_force_22 (by decide) ?_
      exact nw_iret C hr dL_force_23 (Nat.le_of_eq (Nat.zero_add _)) (Nat.le_of_eq (Nat.zero_add _)) ⟨rfl, ⟨ta1, rfl⟩, h3, h4⟩
    · subst hc
      have hE : E = "java/lang/IllegalArgumentException" := hE
      subst hE
      refine nw_catch (name := "java/lang/IllegalArgumentException") C htab [⟨0, 17, 20, 28⟩] ⟨0, 17, 24, 13⟩ [] rfl (fun z hz => by rcases List.mem_singleton.mp hz with rfl; exact Or.inr ⟨by decide, "java/lang/IndexOutOfBoundsException", tw_985, nc1⟩) (by decide) (by decide) tw_669 tw_683 hP hD hS hl2 hce hcv hcl ?_
      refine nw_astore (lv' := [(4, .ref q), (0, .ref (ad 0)), (1, .int p0), (2, .int p1), (3, .ref ao)]) C dL_force_24 (by decide) rfl ?_
      refine nw_iconst (v := 2) C dL_force_26 (by decide) ?_
      exact nw_iret C hr dL_force_27 (Nat.le_of_eq (Nat.zero_add _)) (Nat.le_of_eq (Nat.zero_add _)) ⟨rfl, ⟨ta1, rfl⟩, h3, h4⟩
theorem dL_rule_0 : decode cL_rule 0 = .ok (.aload_n 3, 1) := by decide +kernel
theorem dL_rule_1 : decode cL_rule 1 = .ok (.iconst 0, 1) := by decide +kernel
theorem dL_rule_2 : decode cL_rule 2 = .ok (.aload_n 0, 1) := by decide +kernel
theorem dL_rule_3 : decode cL_rule 3 = .ok (.iload_n 1, 1) := by decide +kernel
theorem dL_rule_4 : decode cL_rule 4 = .ok (.iload_n 2, 1) := by decide +kernel
theorem dL_rule_5 : decode cL_rule 5 = .ok (.invokevirtual 49, 3) := by decide +kernel
theorem dL_rule_8 : decode cL_rule 8 = .ok (.i2l, 1) := by decide +kernel
theorem dL_rule_9 : decode cL_rule 9 = .ok (.lastore, 1) := by decide +kernel
theorem dL_rule_10 : decode cL_rule 10 = .ok (.goto 7, 3) := by decide +kernel
theorem dL_rule_13 : decode cL_rule 13 = .ok (.astore 4, 2) := by decide +kernel
theorem dL_rule_15 : decode cL_rule 15 = .ok (.iconst 1, 1) := by decide +kernel
theorem dL_rule_16 : decode cL_rule 16 = .ok (.ireturn, 1) := by decide +kernel
theorem dL_rule_17 : decode cL_rule 17 = .ok (.iconst 0, 1) := by decide +kernel
theorem dL_rule_18 : decode cL_rule 18 = .ok (.ireturn, 1) := by decide +kernel
theorem kh_L_rule : Cond.codeWith yL_rule cL_rule 5 (some .int) [(0, 10, 13, 13)] ∈ TT ∧ (yL_rule.cls ≠ "java/lang/invoke/MethodHandle" ∧ yL_rule.cls ≠ "java/lang/invoke/VarHandle") ∧ (parseMethodDescriptor yL_rule.desc).map (fun d => d.parameters.length) = some 4 := ⟨tw_1255, by decide +kernel, by decide +kernel⟩
set_option maxHeartbeats 4000000 in
set_option maxRecDepth 100000 in
theorem z_rule {l : Launch} {g : EG} {ad ta : Nat → Nat} {R1 : va_W} {ao : Nat} {f : Nat → Int64} {σ σ1 : CS} {c0 v0 : Int32} {p0 p1 : Int32} (hl : l.stackTraces = false) (h : f_FC_rule p0 p1 σ = some ((c0, v0), σ1)) (hc : c0 = 0 ∨ c0 = 1) (hφ2 : ph σ.2.2 ≤ BB) :
    Ct l g yL_rule (.codeWith yL_rule cL_rule 5 (some .int) [(0, 10, 13, 13)]) 14 326 (BB - ph σ.2.2 + 1) (2 * (BB - ph σ.2.2) + 6) (cw g ad ta σ ++ (R1 ++ [oWl g ao f])) [.ref (ad 0), .int p0, .int p1, .ref ao] (QZ g ad R1 ao (ph σ.2.2) (if c0 = 0 then 0 else 1) σ1 (if c0 = 0 then vp_updL f 0 v0.toInt64 else f)) (ph σ1.2.2 - ph σ.2.2 + 1) (2 * (ph σ1.2.2 - ph σ.2.2) + 6) := by
  refine Ct.ofH rfl (by decide) (Nat.le_of_ble_eq_true rfl) ?_
  intro p e s m args below meth c A C hr htab
  refine nw_lv (lv' := [(0, .ref (ad 0)), (1, .int p0), (2, .int p1), (3, .ref ao)]) [0, 1, 2, 3] rfl ?_
  refine nw_aload_n C dL_rule_0 rfl 3 rfl ?_
  refine nw_iconst (v := 0) C dL_rule_1 (by decide) ?_
  refine nw_aload_n C dL_rule_2 rfl 0 rfl ?_
  refine nw_iload_n C dL_rule_3 rfl 1 rfl ?_
  refine nw_iload_n C dL_rule_4 rfl 2 rfl ?_
  refine nw_callVX (q0 := 0) (As := [.int p0, .int p1]) (rest := [.int 0, .ref ao]) C (c_FC_rule hl h hφ2) tw_1256 kv_X11_rule cl_FC rfl ⟨Nat.le_of_ble_eq_true rfl, Nat.le_of_ble_eq_true rfl⟩ ⟨by show _ ≤ BB - ph σ.2.2 + 1; omega, by show _ ≤ 2 * (BB - ph σ.2.2) + 6; omega⟩ rfl dL_rule_5 rfl (Nat.le_of_ble_eq_true rfl) ?_ ?_
  · rintro w ws1 ⟨hc0, rfl, ⟨ta1, rfl⟩, h3, h4⟩
    have hc0 : c0 = 0 := hc0
    subst hc0
    refine nw_i2l C dL_rule_8 ?_
    refine nw_last C (60 + R1.length) oW_at dL_rule_9 (by unfold vp_in; decide) oW_set ?_
    refine nw_goto (tgt := 17) C dL_rule_10 (by decide) ?_
    refine nw_iconst (v := 0) C dL_rule_17 (by decide) ?_
    exact nw_iret C hr dL_rule_18 (Nat.le_of_eq (Nat.zero_add _)) (Nat.le_of_eq (Nat.zero_add _)) ⟨rfl, ⟨ta1, rfl⟩, h3, h4⟩
  · rintro E ws1 H1 locs1 ls q ce ⟨hc0, hE, ⟨ta1, rfl⟩, h3, h4⟩ hP hD hS hl2 hce hcv hcl
    have hc0 : ¬ c0 = 0 := hc0
    have hE : E = exN c0 := hE
    rcases hc with hc | hc
    · exact absurd hc hc0
    · subst hc
      have hE : E = "java/lang/IllegalArgumentException" := hE
      subst hE
      refine nw_catch (name := "java/lang/IllegalArgumentException") C htab [] ⟨0, 10, 13, 13⟩ [] rfl (fun z hz => nomatch hz) (by decide) (by decide) tw_669 tw_683 hP hD hS hl2 hce hcv hcl ?_
      refine nw_astore (lv' := [(4, .ref q), (0, .ref (ad 0)), (1, .int p0), (2, .int p1), (3, .ref ao)]) C dL_rule_13 (by decide) rfl ?_
      refine nw_iconst (v := 1) C dL_rule_15 (by decide) ?_
      exact nw_iret C hr dL_rule_16 (Nat.le_of_eq (Nat.zero_add _)) (Nat.le_of_eq (Nat.zero_add _)) ⟨rfl, ⟨ta1, rfl⟩, h3, h4⟩
theorem dL_person_0 : decode cL_person 0 = .ok (.aload_n 3, 1) := by decide +kernel
theorem dL_person_1 : decode cL_person 1 = .ok (.iconst 0, 1) := by decide +kernel
theorem dL_person_2 : decode cL_person 2 = .ok (.aload_n 0, 1) := by decide +kernel
theorem dL_person_3 : decode cL_person 3 = .ok (.iload_n 1, 1) := by decide +kernel
theorem dL_person_4 : decode cL_person 4 = .ok (.iload_n 2, 1) := by decide +kernel
theorem dL_person_5 : decode cL_person 5 = .ok (.invokevirtual 52, 3) := by decide +kernel
theorem dL_person_8 : decode cL_person 8 = .ok (.i2l, 1) := by decide +kernel
theorem dL_person_9 : decode cL_person 9 = .ok (.lastore, 1) := by decide +kernel
theorem dL_person_10 : decode cL_person 10 = .ok (.goto 11, 3) := by decide +kernel
theorem dL_person_13 : decode cL_person 13 = .ok (.astore 4, 2) := by decide +kernel
theorem dL_person_15 : decode cL_person 15 = .ok (.iconst 1, 1) := by decide +kernel
theorem dL_person_16 : decode cL_person 16 = .ok (.ireturn, 1) := by decide +kernel
theorem dL_person_17 : decode cL_person 17 = .ok (.astore 4, 2) := by decide +kernel
theorem dL_person_19 : decode cL_person 19 = .ok (.iconst 2, 1) := by decide +kernel
theorem dL_person_20 : decode cL_person 20 = .ok (.ireturn, 1) := by decide +kernel
theorem dL_person_21 : decode cL_person 21 = .ok (.iconst 0, 1) := by decide +kernel
theorem dL_person_22 : decode cL_person 22 = .ok (.ireturn, 1) := by decide +kernel
theorem kh_L_person : Cond.codeWith yL_person cL_person 5 (some .int) [(0, 10, 13, 13), (0, 10, 17, 15)] ∈ TT ∧ (yL_person.cls ≠ "java/lang/invoke/MethodHandle" ∧ yL_person.cls ≠ "java/lang/invoke/VarHandle") ∧ (parseMethodDescriptor yL_person.desc).map (fun d => d.parameters.length) = some 4 := ⟨tw_1263, by decide +kernel, by decide +kernel⟩
set_option maxHeartbeats 4000000 in
set_option maxRecDepth 100000 in
theorem z_person {l : Launch} {g : EG} {ad ta : Nat → Nat} {R1 : va_W} {ao : Nat} {f : Nat → Int64} {σ σ1 : CS} {c0 v0 : Int32} {p0 p1 : Int32} (hl : l.stackTraces = false) (h : f_FC_person p0 p1 σ = some ((c0, v0), σ1)) (hc : c0 = 0 ∨ c0 = 1 ∨ c0 = 2) (hφ2 : ph σ.2.2 ≤ BB) :
    Ct l g yL_person (.codeWith yL_person cL_person 5 (some .int) [(0, 10, 13, 13), (0, 10, 17, 15)]) 14 326 (BB - ph σ.2.2 + 1) (2 * (BB - ph σ.2.2) + 6) (cw g ad ta σ ++ (R1 ++ [oWl g ao f])) [.ref (ad 0), .int p0, .int p1, .ref ao] (QZ g ad R1 ao (ph σ.2.2) (if c0 = 0 then 0 else if c0 = 1 then 1 else 2) σ1 (if c0 = 0 then vp_updL f 0 v0.toInt64 else f)) (ph σ1.2.2 - ph σ.2.2 + 1) (2 * (ph σ1.2.2 - ph σ.2.2) + 6) := by
  refine Ct.ofH rfl (by decide) (Nat.le_of_ble_eq_true rfl) ?_
  intro p e s m args below meth c A C hr htab
  refine nw_lv (lv' := [(0, .ref (ad 0)), (1, .int p0), (2, .int p1), (3, .ref ao)]) [0, 1, 2, 3] rfl ?_
  refine nw_aload_n C dL_person_0 rfl 3 rfl ?_
  refine nw_iconst (v := 0) C dL_person_1 (by decide) ?_
  refine nw_aload_n C dL_person_2 rfl 0 rfl ?_
  refine nw_iload_n C dL_person_3 rfl 1 rfl ?_
  refine nw_iload_n C dL_person_4 rfl 2 rfl ?_
  refine nw_callVX (q0 := 0) (As := [.int p0, .int p1]) (rest := [.int 0, .ref ao]) C (c_FC_person hl h hφ2) tw_1264 kv_X11_person cl_FC rfl ⟨Nat.le_of_ble_eq_true rfl, Nat.le_of_ble_eq_true rfl⟩ ⟨by show _ ≤ BB - ph σ.2.2 + 1; omega, by show _ ≤ 2 * (BB - ph σ.2.2) + 6; omega⟩ rfl dL_person_5 rfl (Nat.le_of_ble_eq_true rfl) ?_ ?_
  · rintro w ws1 ⟨hc0, rfl, ⟨ta1, rfl⟩, h3, h4⟩
    have hc0 : c0 = 0 := hc0
    subst hc0
    refine nw_i2l C dL_person_8 ?_
    refine nw_last C (60 + R1.length) oW_at dL_person_9 (by unfold vp_in; decide) oW_set ?_
    refine nw_goto (tgt := 21) C dL_person_10 (by decide) ?_
    refine nw_iconst (v := 0) C dL_person_21 (by decide) ?_
    exact nw_iret C hr dL_person_22 (Nat.le_of_eq (Nat.zero_add _)) (Nat.le_of_eq (Nat.zero_add _)) ⟨rfl, ⟨ta1, rfl⟩, h3, h4⟩
  · rintro E ws1 H1 locs1 ls q ce ⟨hc0, hE, ⟨ta1, rfl⟩, h3, h4⟩ hP hD hS hl2 hce hcv hcl
    have hc0 : ¬ c0 = 0 := hc0
    have hE : E = exN c0 := hE
    rcases hc with hc | hc | hc
    · exact absurd hc hc0
    · subst hc
      have hE : E = "java/lang/IllegalArgumentException" := hE
      subst hE
      refine nw_catch (name := "java/lang/IllegalArgumentException") C htab [] ⟨0, 10, 13, 13⟩ [⟨0, 10, 17, 15⟩] rfl (fun z hz => nomatch hz) (by decide) (by decide) tw_669 tw_683 hP hD hS hl2 hce hcv hcl ?_
      refine nw_astore (lv' := [(4, .ref q), (0, .ref (ad 0)), (1, .int p0), (2, .int p1), (3, .ref ao)]) C dL_person_13 (by decide) rfl ?_
      refine nw_iconst (v := 1) C dL_person_15 (by decide) ?_
      exact nw_iret C hr dL_person_16 (Nat.le_of_eq (Nat.zero_add _)) (Nat.le_of_eq (Nat.zero_add _)) ⟨rfl, ⟨ta1, rfl⟩, h3, h4⟩
    · subst hc
      have hE : E = "java/lang/IllegalStateException" := hE
      subst hE
      refine nw_catch (name := "java/lang/IllegalStateException") C htab [⟨0, 10, 13, 13⟩] ⟨0, 10, 17, 15⟩ [] rfl (fun z hz => by rcases List.mem_singleton.mp hz with rfl; exact Or.inr ⟨by decide, "java/lang/IllegalArgumentException", tw_669, nc2⟩) (by decide) (by decide) tw_670 tw_755 hP hD hS hl2 hce hcv hcl ?_
      refine nw_astore (lv' := [(4, .ref q), (0, .ref (ad 0)), (1, .int p0), (2, .int p1), (3, .ref ao)]) C dL_person_17 (by decide) rfl ?_
      refine nw_iconst (v := 2) C dL_person_19 (by decide) ?_
      exact nw_iret C hr dL_person_20 (Nat.le_of_eq (Nat.zero_add _)) (Nat.le_of_eq (Nat.zero_add _)) ⟨rfl, ⟨ta1, rfl⟩, h3, h4⟩
theorem dL_heir_0 : decode cL_heir 0 = .ok (.aload_n 3, 1) := by decide +kernel
theorem dL_heir_1 : decode cL_heir 1 = .ok (.iconst 0, 1) := by decide +kernel
theorem dL_heir_2 : decode cL_heir 2 = .ok (.aload_n 0, 1) := by decide +kernel
theorem dL_heir_3 : decode cL_heir 3 = .ok (.iload_n 1, 1) := by decide +kernel
theorem dL_heir_4 : decode cL_heir 4 = .ok (.iload_n 2, 1) := by decide +kernel
theorem dL_heir_5 : decode cL_heir 5 = .ok (.invokevirtual 55, 3) := by decide +kernel
theorem dL_heir_8 : decode cL_heir 8 = .ok (.i2l, 1) := by decide +kernel
theorem dL_heir_9 : decode cL_heir 9 = .ok (.lastore, 1) := by decide +kernel
theorem dL_heir_10 : decode cL_heir 10 = .ok (.goto 11, 3) := by decide +kernel
theorem dL_heir_13 : decode cL_heir 13 = .ok (.astore 4, 2) := by decide +kernel
theorem dL_heir_15 : decode cL_heir 15 = .ok (.iconst 1, 1) := by decide +kernel
theorem dL_heir_16 : decode cL_heir 16 = .ok (.ireturn, 1) := by decide +kernel
theorem dL_heir_17 : decode cL_heir 17 = .ok (.astore 4, 2) := by decide +kernel
theorem dL_heir_19 : decode cL_heir 19 = .ok (.iconst 2, 1) := by decide +kernel
theorem dL_heir_20 : decode cL_heir 20 = .ok (.ireturn, 1) := by decide +kernel
theorem dL_heir_21 : decode cL_heir 21 = .ok (.iconst 0, 1) := by decide +kernel
theorem dL_heir_22 : decode cL_heir 22 = .ok (.ireturn, 1) := by decide +kernel
theorem kh_L_heir : Cond.codeWith yL_heir cL_heir 5 (some .int) [(0, 10, 13, 28), (0, 10, 17, 13)] ∈ TT ∧ (yL_heir.cls ≠ "java/lang/invoke/MethodHandle" ∧ yL_heir.cls ≠ "java/lang/invoke/VarHandle") ∧ (parseMethodDescriptor yL_heir.desc).map (fun d => d.parameters.length) = some 4 := ⟨tw_1276, by decide +kernel, by decide +kernel⟩
set_option maxHeartbeats 4000000 in
set_option maxRecDepth 100000 in
theorem z_heir {l : Launch} {g : EG} {ad ta : Nat → Nat} {R1 : va_W} {ao : Nat} {f : Nat → Int64} {σ σ1 : CS} {c0 v0 : Int32} {p0 p1 : Int32} (hl : l.stackTraces = false) (h : f_FC_heir p0 p1 σ = some ((c0, v0), σ1)) (hc : c0 = 0 ∨ c0 = 3 ∨ c0 = 1) (hφ2 : ph σ.2.2 ≤ BB) :
    Ct l g yL_heir (.codeWith yL_heir cL_heir 5 (some .int) [(0, 10, 13, 28), (0, 10, 17, 13)]) 14 326 (BB - ph σ.2.2 + 1) (2 * (BB - ph σ.2.2) + 6) (cw g ad ta σ ++ (R1 ++ [oWl g ao f])) [.ref (ad 0), .int p0, .int p1, .ref ao] (QZ g ad R1 ao (ph σ.2.2) (if c0 = 0 then 0 else if c0 = 3 then 1 else 2) σ1 (if c0 = 0 then vp_updL f 0 v0.toInt64 else f)) (ph σ1.2.2 - ph σ.2.2 + 1) (2 * (ph σ1.2.2 - ph σ.2.2) + 6) := by
  refine Ct.ofH rfl (by decide) (Nat.le_of_ble_eq_true rfl) ?_
  intro p e s m args below meth c A C hr htab
  refine nw_lv (lv' := [(0, .ref (ad 0)), (1, .int p0), (2, .int p1), (3, .ref ao)]) [0, 1, 2, 3] rfl ?_
  refine nw_aload_n C dL_heir_0 rfl 3 rfl ?_
  refine nw_iconst (v := 0) C dL_heir_1 (by decide) ?_
  refine nw_aload_n C dL_heir_2 rfl 0 rfl ?_
  refine nw_iload_n C dL_heir_3 rfl 1 rfl ?_
  refine nw_iload_n C dL_heir_4 rfl 2 rfl ?_
  refine nw_callVX (q0 := 0) (As := [.int p0, .int p1]) (rest := [.int 0, .ref ao]) C (c_FC_heir hl h hφ2) tw_1277 kv_X11_heir cl_FC rfl ⟨Nat.le_of_ble_eq_true rfl, Nat.le_of_ble_eq_true rfl⟩ ⟨by show _ ≤ BB - ph σ.2.2 + 1; omega, by show _ ≤ 2 * (BB - ph σ.2.2) + 6; omega⟩ rfl dL_heir_5 rfl (Nat.le_of_ble_eq_true rfl) ?_ ?_
  · rintro w ws1 ⟨hc0, rfl, ⟨ta1, rfl⟩, h3, h4⟩
    have hc0 : c0 = 0 := hc0
    subst hc0
    refine nw_i2l C dL_heir_8 ?_
    refine nw_last C (60 + R1.length) oW_at dL_heir_9 (by unfold vp_in; decide) oW_set ?_
    refine nw_goto (tgt := 21) C dL_heir_10 (by decide) ?_
    refine nw_iconst (v := 0) C dL_heir_21 (by decide) ?_
    exact nw_iret C hr dL_heir_22 (Nat.le_of_eq (Nat.zero_add _)) (Nat.le_of_eq (Nat.zero_add _)) ⟨rfl, ⟨ta1, rfl⟩, h3, h4⟩
  · rintro E ws1 H1 locs1 ls q ce ⟨hc0, hE, ⟨ta1, rfl⟩, h3, h4⟩ hP hD hS hl2 hce hcv hcl
    have hc0 : ¬ c0 = 0 := hc0
    have hE : E = exN c0 := hE
    rcases hc with hc | hc | hc
    · exact absurd hc hc0
    · subst hc
      have hE : E = "java/lang/IndexOutOfBoundsException" := hE
      subst hE
      refine nw_catch (name := "java/lang/IndexOutOfBoundsException") C htab [] ⟨0, 10, 13, 28⟩ [⟨0, 10, 17, 13⟩] rfl (fun z hz => nomatch hz) (by decide) (by decide) tw_985 tw_996 hP hD hS hl2 hce hcv hcl ?_
      refine nw_astore (lv' := [(4, .ref q), (0, .ref (ad 0)), (1, .int p0), (2, .int p1), (3, .ref ao)]) C dL_heir_13 (by decide) rfl ?_
      refine nw_iconst (v := 1) C dL_heir_15 (by decide) ?_
      exact nw_iret C hr dL_heir_16 (Nat.le_of_eq (Nat.zero_add _)) (Nat.le_of_eq (Nat.zero_add _)) ⟨rfl, ⟨ta1, rfl⟩, h3, h4⟩
    · subst hc
      have hE : E = "java/lang/IllegalArgumentException" := hE
      subst hE
      refine nw_catch (name := "java/lang/IllegalArgumentException") C htab [⟨0, 10, 13, 28⟩] ⟨0, 10, 17, 13⟩ [] rfl (fun z hz => by rcases List.mem_singleton.mp hz with rfl; exact Or.inr ⟨by decide, "java/lang/IndexOutOfBoundsException", tw_985, nc1⟩) (by decide) (by decide) tw_669 tw_683 hP hD hS hl2 hce hcv hcl ?_
      refine nw_astore (lv' := [(4, .ref q), (0, .ref (ad 0)), (1, .int p0), (2, .int p1), (3, .ref ao)]) C dL_heir_17 (by decide) rfl ?_
      refine nw_iconst (v := 2) C dL_heir_19 (by decide) ?_
      exact nw_iret C hr dL_heir_20 (Nat.le_of_eq (Nat.zero_add _)) (Nat.le_of_eq (Nat.zero_add _)) ⟨rfl, ⟨ta1, rfl⟩, h3, h4⟩
theorem dL_die_0 : decode cL_die 0 = .ok (.aload_n 2, 1) := by decide +kernel
theorem dL_die_1 : decode cL_die 1 = .ok (.iconst 0, 1) := by decide +kernel
theorem dL_die_2 : decode cL_die 2 = .ok (.aload_n 0, 1) := by decide +kernel
theorem dL_die_3 : decode cL_die 3 = .ok (.iload_n 1, 1) := by decide +kernel
theorem dL_die_4 : decode cL_die 4 = .ok (.invokevirtual 58, 3) := by decide +kernel
theorem dL_die_7 : decode cL_die 7 = .ok (.i2l, 1) := by decide +kernel
theorem dL_die_8 : decode cL_die 8 = .ok (.lastore, 1) := by decide +kernel
theorem dL_die_9 : decode cL_die 9 = .ok (.goto 6, 3) := by decide +kernel
theorem dL_die_12 : decode cL_die 12 = .ok (.astore_n 3, 1) := by decide +kernel
theorem dL_die_13 : decode cL_die 13 = .ok (.iconst 1, 1) := by decide +kernel
theorem dL_die_14 : decode cL_die 14 = .ok (.ireturn, 1) := by decide +kernel
theorem dL_die_15 : decode cL_die 15 = .ok (.iconst 0, 1) := by decide +kernel
theorem dL_die_16 : decode cL_die 16 = .ok (.ireturn, 1) := by decide +kernel
theorem kh_L_die : Cond.codeWith yL_die cL_die 4 (some .int) [(0, 9, 12, 28)] ∈ TT ∧ (yL_die.cls ≠ "java/lang/invoke/MethodHandle" ∧ yL_die.cls ≠ "java/lang/invoke/VarHandle") ∧ (parseMethodDescriptor yL_die.desc).map (fun d => d.parameters.length) = some 3 := ⟨tw_1283, by decide +kernel, by decide +kernel⟩
set_option maxHeartbeats 4000000 in
set_option maxRecDepth 100000 in
theorem z_die {l : Launch} {g : EG} {ad ta : Nat → Nat} {R1 : va_W} {ao : Nat} {f : Nat → Int64} {σ σ1 : CS} {c0 v0 : Int32} {p0 : Int32} (hl : l.stackTraces = false) (h : f_FC_die p0 σ = some ((c0, v0), σ1)) (hc : c0 = 0 ∨ c0 = 3) (hφ2 : ph σ.2.2 ≤ BB) :
    Ct l g yL_die (.codeWith yL_die cL_die 4 (some .int) [(0, 9, 12, 28)]) 14 325 (BB - ph σ.2.2 + 1) (2 * (BB - ph σ.2.2) + 6) (cw g ad ta σ ++ (R1 ++ [oWl g ao f])) [.ref (ad 0), .int p0, .ref ao] (QZ g ad R1 ao (ph σ.2.2) (if c0 = 0 then 0 else 1) σ1 (if c0 = 0 then vp_updL f 0 v0.toInt64 else f)) (ph σ1.2.2 - ph σ.2.2 + 1) (2 * (ph σ1.2.2 - ph σ.2.2) + 6) := by
  refine Ct.ofH rfl (by decide) (Nat.le_of_ble_eq_true rfl) ?_
  intro p e s m args below meth c A C hr htab
  refine nw_lv (lv' := [(0, .ref (ad 0)), (1, .int p0), (2, .ref ao)]) [0, 1, 2] rfl ?_
  refine nw_aload_n C dL_die_0 rfl 2 rfl ?_
  refine nw_iconst (v := 0) C dL_die_1 (by decide) ?_
  refine nw_aload_n C dL_die_2 rfl 0 rfl ?_
  refine nw_iload_n C dL_die_3 rfl 1 rfl ?_
  refine nw_callVX (q0 := 0) (As := [.int p0]) (rest := [.int 0, .ref ao]) C (c_FC_die hl h hφ2) tw_1284 kv_X11_die cl_FC rfl ⟨Nat.le_of_ble_eq_true rfl, Nat.le_of_ble_eq_true rfl⟩ ⟨by show _ ≤ BB - ph σ.2.2 + 1; omega, by show _ ≤ 2 * (BB - ph σ.2.2) + 6; omega⟩ rfl dL_die_4 rfl (Nat.le_of_ble_eq_true rfl) ?_ ?_
  · rintro w ws1 ⟨hc0, rfl, ⟨ta1, rfl⟩, h3, h4⟩
    have hc0 : c0 = 0 := hc0
    subst hc0
    refine nw_i2l C dL_die_7 ?_
    refine nw_last C (60 + R1.length) oW_at dL_die_8 (by unfold vp_in; decide) oW_set ?_
    refine nw_goto (tgt := 15) C dL_die_9 (by decide) ?_
    refine nw_iconst (v := 0) C dL_die_15 (by decide) ?_
    exact nw_iret C hr dL_die_16 (Nat.le_of_eq (Nat.zero_add _)) (Nat.le_of_eq (Nat.zero_add _)) ⟨rfl, ⟨ta1, rfl⟩, h3, h4⟩
  · rintro E ws1 H1 locs1 ls q ce ⟨hc0, hE, ⟨ta1, rfl⟩, h3, h4⟩ hP hD hS hl2 hce hcv hcl
    have hc0 : ¬ c0 = 0 := hc0
    have hE : E = exN c0 := hE
    rcases hc with hc | hc
    · exact absurd hc hc0
    · subst hc
      have hE : E = "java/lang/IndexOutOfBoundsException" := hE
      subst hE
      refine nw_catch (name := "java/lang/IndexOutOfBoundsException") C htab [] ⟨0, 9, 12, 28⟩ [] rfl (fun z hz => nomatch hz) (by decide) (by decide) tw_985 tw_996 hP hD hS hl2 hce hcv hcl ?_
      refine nw_astore_n (lv' := [(3, .ref q), (0, .ref (ad 0)), (1, .int p0), (2, .ref ao)]) C dL_die_12 rfl (by decide) rfl ?_
      refine nw_iconst (v := 1) C dL_die_13 (by decide) ?_
      exact nw_iret C hr dL_die_14 (Nat.le_of_eq (Nat.zero_add _)) (Nat.le_of_eq (Nat.zero_add _)) ⟨rfl, ⟨ta1, rfl⟩, h3, h4⟩
theorem dL_told_0 : decode cL_told 0 = .ok (.aload_n 3, 1) := by decide +kernel
theorem dL_told_1 : decode cL_told 1 = .ok (.iconst 0, 1) := by decide +kernel
theorem dL_told_2 : decode cL_told 2 = .ok (.aload_n 0, 1) := by decide +kernel
theorem dL_told_3 : decode cL_told 3 = .ok (.iload_n 1, 1) := by decide +kernel
theorem dL_told_4 : decode cL_told 4 = .ok (.iload_n 2, 1) := by decide +kernel
theorem dL_told_5 : decode cL_told 5 = .ok (.invokevirtual 61, 3) := by decide +kernel
theorem dL_told_8 : decode cL_told 8 = .ok (.i2l, 1) := by decide +kernel
theorem dL_told_9 : decode cL_told 9 = .ok (.lastore, 1) := by decide +kernel
theorem dL_told_10 : decode cL_told 10 = .ok (.goto 11, 3) := by decide +kernel
theorem dL_told_13 : decode cL_told 13 = .ok (.astore 4, 2) := by decide +kernel
theorem dL_told_15 : decode cL_told 15 = .ok (.iconst 1, 1) := by decide +kernel
theorem dL_told_16 : decode cL_told 16 = .ok (.ireturn, 1) := by decide +kernel
theorem dL_told_17 : decode cL_told 17 = .ok (.astore 4, 2) := by decide +kernel
theorem dL_told_19 : decode cL_told 19 = .ok (.iconst 2, 1) := by decide +kernel
theorem dL_told_20 : decode cL_told 20 = .ok (.ireturn, 1) := by decide +kernel
theorem dL_told_21 : decode cL_told 21 = .ok (.iconst 0, 1) := by decide +kernel
theorem dL_told_22 : decode cL_told 22 = .ok (.ireturn, 1) := by decide +kernel
theorem kh_L_told : Cond.codeWith yL_told cL_told 5 (some .int) [(0, 10, 13, 28), (0, 10, 17, 13)] ∈ TT ∧ (yL_told.cls ≠ "java/lang/invoke/MethodHandle" ∧ yL_told.cls ≠ "java/lang/invoke/VarHandle") ∧ (parseMethodDescriptor yL_told.desc).map (fun d => d.parameters.length) = some 4 := ⟨tw_1291, by decide +kernel, by decide +kernel⟩
set_option maxHeartbeats 4000000 in
set_option maxRecDepth 100000 in
theorem z_told {l : Launch} {g : EG} {ad ta : Nat → Nat} {R1 : va_W} {ao : Nat} {f : Nat → Int64} {σ σ1 : CS} {c0 v0 : Int32} {p0 p1 : Int32} (hl : l.stackTraces = false) (h : f_FC_told p0 p1 σ = some ((c0, v0), σ1)) (hc : c0 = 0 ∨ c0 = 3 ∨ c0 = 1) (hφ2 : ph σ.2.2 ≤ BB) :
    Ct l g yL_told (.codeWith yL_told cL_told 5 (some .int) [(0, 10, 13, 28), (0, 10, 17, 13)]) 14 326 (BB - ph σ.2.2 + 1) (2 * (BB - ph σ.2.2) + 6) (cw g ad ta σ ++ (R1 ++ [oWl g ao f])) [.ref (ad 0), .int p0, .int p1, .ref ao] (QZ g ad R1 ao (ph σ.2.2) (if c0 = 0 then 0 else if c0 = 3 then 1 else 2) σ1 (if c0 = 0 then vp_updL f 0 v0.toInt64 else f)) (ph σ1.2.2 - ph σ.2.2 + 1) (2 * (ph σ1.2.2 - ph σ.2.2) + 6) := by
  refine Ct.ofH rfl (by decide) (Nat.le_of_ble_eq_true rfl) ?_
  intro p e s m args below meth c A C hr htab
  refine nw_lv (lv' := [(0, .ref (ad 0)), (1, .int p0), (2, .int p1), (3, .ref ao)]) [0, 1, 2, 3] rfl ?_
  refine nw_aload_n C dL_told_0 rfl 3 rfl ?_
  refine nw_iconst (v := 0) C dL_told_1 (by decide) ?_
  refine nw_aload_n C dL_told_2 rfl 0 rfl ?_
  refine nw_iload_n C dL_told_3 rfl 1 rfl ?_
  refine nw_iload_n C dL_told_4 rfl 2 rfl ?_
  refine nw_callVX (q0 := 0) (As := [.int p0, .int p1]) (rest := [.int 0, .ref ao]) C (c_FC_told hl h hφ2) tw_1292 kv_X11_told cl_FC rfl ⟨Nat.le_of_ble_eq_true rfl, Nat.le_of_ble_eq_true rfl⟩ ⟨by show _ ≤ BB - ph σ.2.2 + 1; omega, by show _ ≤ 2 * (BB - ph σ.2.2) + 6; omega⟩ rfl dL_told_5 rfl (Nat.le_of_ble_eq_true rfl) ?_ ?_
  · rintro w ws1 ⟨hc0, rfl, ⟨ta1, rfl⟩, h3, h4⟩
    have hc0 : c0 = 0 := hc0
    subst hc0
    refine nw_i2l C dL_told_8 ?_
    refine nw_last C (60 + R1.length) oW_at dL_told_9 (by unfold vp_in; decide) oW_set ?_
    refine nw_goto (tgt := 21) C dL_told_10 (by decide) ?_
    refine nw_iconst (v := 0) C dL_told_21 (by decide) ?_
    exact nw_iret C hr dL_told_22 (Nat.le_of_eq (Nat.zero_add _)) (Nat.le_of_eq (Nat.zero_add _)) ⟨rfl, ⟨ta1, rfl⟩, h3, h4⟩
  · rintro E ws1 H1 locs1 ls q ce ⟨hc0, hE, ⟨ta1, rfl⟩, h3, h4⟩ hP hD hS hl2 hce hcv hcl
    have hc0 : ¬ c0 = 0 := hc0
    have hE : E = exN c0 := hE
    rcases hc with hc | hc | hc
    · exact absurd hc hc0
    · subst hc
      have hE : E = "java/lang/IndexOutOfBoundsException" := hE
      subst hE
      refine nw_catch (name := "java/lang/IndexOutOfBoundsException") C htab [] ⟨0, 10, 13, 28⟩ [⟨0, 10, 17, 13⟩] rfl (fun z hz => nomatch hz) (by decide) (by decide) tw_985 tw_996 hP hD hS hl2 hce hcv hcl ?_
      refine nw_astore (lv' := [(4, .ref q), (0, .ref (ad 0)), (1, .int p0), (2, .int p1), (3, .ref ao)]) C dL_told_13 (by decide) rfl ?_
      refine nw_iconst (v := 1) C dL_told_15 (by decide) ?_
      exact nw_iret C hr dL_told_16 (Nat.le_of_eq (Nat.zero_add _)) (Nat.le_of_eq (Nat.zero_add _)) ⟨rfl, ⟨ta1, rfl⟩, h3, h4⟩
    · subst hc
      have hE : E = "java/lang/IllegalArgumentException" := hE
      subst hE
      refine nw_catch (name := "java/lang/IllegalArgumentException") C htab [⟨0, 10, 13, 28⟩] ⟨0, 10, 17, 13⟩ [] rfl (fun z hz => by rcases List.mem_singleton.mp hz with rfl; exact Or.inr ⟨by decide, "java/lang/IndexOutOfBoundsException", tw_985, nc1⟩) (by decide) (by decide) tw_669 tw_683 hP hD hS hl2 hce hcv hcl ?_
      refine nw_astore (lv' := [(4, .ref q), (0, .ref (ad 0)), (1, .int p0), (2, .int p1), (3, .ref ao)]) C dL_told_17 (by decide) rfl ?_
      refine nw_iconst (v := 2) C dL_told_19 (by decide) ?_
      exact nw_iret C hr dL_told_20 (Nat.le_of_eq (Nat.zero_add _)) (Nat.le_of_eq (Nat.zero_add _)) ⟨rfl, ⟨ta1, rfl⟩, h3, h4⟩
theorem dL_warden_0 : decode cL_warden 0 = .ok (.aload 4, 2) := by decide +kernel
theorem dL_warden_2 : decode cL_warden 2 = .ok (.iconst 0, 1) := by decide +kernel
theorem dL_warden_3 : decode cL_warden 3 = .ok (.aload_n 0, 1) := by decide +kernel
theorem dL_warden_4 : decode cL_warden 4 = .ok (.iload_n 1, 1) := by decide +kernel
theorem dL_warden_5 : decode cL_warden 5 = .ok (.iload_n 2, 1) := by decide +kernel
theorem dL_warden_6 : decode cL_warden 6 = .ok (.iload_n 3, 1) := by decide +kernel
theorem dL_warden_7 : decode cL_warden 7 = .ok (.invokevirtual 64, 3) := by decide +kernel
theorem dL_warden_10 : decode cL_warden 10 = .ok (.i2l, 1) := by decide +kernel
theorem dL_warden_11 : decode cL_warden 11 = .ok (.lastore, 1) := by decide +kernel
theorem dL_warden_12 : decode cL_warden 12 = .ok (.goto 11, 3) := by decide +kernel
theorem dL_warden_15 : decode cL_warden 15 = .ok (.astore 5, 2) := by decide +kernel
theorem dL_warden_17 : decode cL_warden 17 = .ok (.iconst 1, 1) := by decide +kernel
theorem dL_warden_18 : decode cL_warden 18 = .ok (.ireturn, 1) := by decide +kernel
theorem dL_warden_19 : decode cL_warden 19 = .ok (.astore 5, 2) := by decide +kernel
theorem dL_warden_21 : decode cL_warden 21 = .ok (.iconst 2, 1) := by decide +kernel
theorem dL_warden_22 : decode cL_warden 22 = .ok (.ireturn, 1) := by decide +kernel
theorem dL_warden_23 : decode cL_warden 23 = .ok (.iconst 0, 1) := by decide +kernel
theorem dL_warden_24 : decode cL_warden 24 = .ok (.ireturn, 1) := by decide +kernel
theorem kh_L_warden : Cond.codeWith yL_warden cL_warden 6 (some .int) [(0, 12, 15, 28), (0, 12, 19, 13)] ∈ TT ∧ (yL_warden.cls ≠ "java/lang/invoke/MethodHandle" ∧ yL_warden.cls ≠ "java/lang/invoke/VarHandle") ∧ (parseMethodDescriptor yL_warden.desc).map (fun d => d.parameters.length) = some 5 := ⟨tw_1300, by decide +kernel, by decide +kernel⟩
set_option maxHeartbeats 4000000 in
set_option maxRecDepth 100000 in
theorem z_warden {l : Launch} {g : EG} {ad ta : Nat → Nat} {R1 : va_W} {ao : Nat} {f : Nat → Int64} {σ σ1 : CS} {c0 v0 : Int32} {p0 p1 p2 : Int32} (hl : l.stackTraces = false) (h : f_FC_warden p0 p1 p2 σ = some ((c0, v0), σ1)) (hc : c0 = 0 ∨ c0 = 3 ∨ c0 = 1) (hφ2 : ph σ.2.2 ≤ BB) :
    Ct l g yL_warden (.codeWith yL_warden cL_warden 6 (some .int) [(0, 12, 15, 28), (0, 12, 19, 13)]) 14 327 (BB - ph σ.2.2 + 1) (2 * (BB - ph σ.2.2) + 6) (cw g ad ta σ ++ (R1 ++ [oWl g ao f])) [.ref (ad 0), .int p0, .int p1, .int p2, .ref ao] (QZ g ad R1 ao (ph σ.2.2) (if c0 = 0 then 0 else if c0 = 3 then 1 else 2) σ1 (if c0 = 0 then vp_updL f 0 v0.toInt64 else f)) (ph σ1.2.2 - ph σ.2.2 + 1) (2 * (ph σ1.2.2 - ph σ.2.2) + 6) := by
  refine Ct.ofH rfl (by decide) (Nat.le_of_ble_eq_true rfl) ?_
  intro p e s m args below meth c A C hr htab
  refine nw_lv (lv' := [(0, .ref (ad 0)), (1, .int p0), (2, .int p1), (3, .int p2), (4, .ref ao)]) [0, 1, 2, 3, 4] rfl ?_
  refine nw_aload C dL_warden_0 4 rfl ?_
  refine nw_iconst (v := 0) C dL_warden_2 (by decide) ?_
  refine nw_aload_n C dL_warden_3 rfl 0 rfl ?_
  refine nw_iload_n C dL_warden_4 rfl 1 rfl ?_
  refine nw_iload_n C dL_warden_5 rfl 2 rfl ?_
  refine nw_iload_n C dL_warden_6 rfl 3 rfl ?_
  refine nw_callVX (q0 := 0) (As := [.int p0, .int p1, .int p2]) (rest := [.int 0, .ref ao]) C (c_FC_warden hl h hφ2) tw_1301 kv_X11_warden cl_FC rfl ⟨Nat.le_of_ble_eq_true rfl, Nat.le_of_ble_eq_true rfl⟩ ⟨by show _ ≤ BB - ph σ.2.2 + 1; omega, by show _ ≤ 2 * (BB - ph σ.2.2) + 6; omega⟩ rfl dL_warden_7 rfl (Nat.le_of_ble_eq_true rfl) ?_ ?_
  · rintro w ws1 ⟨hc0, rfl, ⟨ta1, rfl⟩, h3, h4⟩
    have hc0 : c0 = 0 := hc0
    subst hc0
    refine nw_i2l C dL_warden_10 ?_
    refine nw_last C (60 + R1.length) oW_at dL_warden_11 (by unfold vp_in; decide) oW_set ?_
    refine nw_goto (tgt := 23) C dL_warden_12 (by decide) ?_
    refine nw_iconst (v := 0) C dL_warden_23 (by decide) ?_
    exact nw_iret C hr dL_warden_24 (Nat.le_of_eq (Nat.zero_add _)) (Nat.le_of_eq (Nat.zero_add _)) ⟨rfl, ⟨ta1, rfl⟩, h3, h4⟩
  · rintro E ws1 H1 locs1 ls q ce ⟨hc0, hE, ⟨ta1, rfl⟩, h3, h4⟩ hP hD hS hl2 hce hcv hcl
    have hc0 : ¬ c0 = 0 := hc0
    have hE : E = exN c0 := hE
    rcases hc with hc | hc | hc
    · exact absurd hc hc0
    · subst hc
      have hE : E = "java/lang/IndexOutOfBoundsException" := hE
      subst hE
      refine nw_catch (name := "java/lang/IndexOutOfBoundsException") C htab [] ⟨0, 12, 15, 28⟩ [⟨0, 12, 19, 13⟩] rfl (fun z hz => nomatch hz) (by decide) (by decide) tw_985 tw_996 hP hD hS hl2 hce hcv hcl ?_
      refine nw_astore (lv' := [(5, .ref q), (0, .ref (ad 0)), (1, .int p0), (2, .int p1), (3, .int p2), (4, .ref ao)]) C dL_warden_15 (by decide) rfl ?_
      refine nw_iconst (v := 1) C dL_warden_17 (by decide) ?_
      exact nw_iret C hr dL_warden_18 (Nat.le_of_eq (Nat.zero_add _)) (Nat.le_of_eq (Nat.zero_add _)) ⟨rfl, ⟨ta1, rfl⟩, h3, h4⟩
    · subst hc
      have hE : E = "java/lang/IllegalArgumentException" := hE
      subst hE
      refine nw_catch (name := "java/lang/IllegalArgumentException") C htab [⟨0, 12, 15, 28⟩] ⟨0, 12, 19, 13⟩ [] rfl (fun z hz => by rcases List.mem_singleton.mp hz with rfl; exact Or.inr ⟨by decide, "java/lang/IndexOutOfBoundsException", tw_985, nc1⟩) (by decide) (by decide) tw_669 tw_683 hP hD hS hl2 hce hcv hcl ?_
      refine nw_astore (lv' := [(5, .ref q), (0, .ref (ad 0)), (1, .int p0), (2, .int p1), (3, .int p2), (4, .ref ao)]) C dL_warden_19 (by decide) rfl ?_
      refine nw_iconst (v := 2) C dL_warden_21 (by decide) ?_
      exact nw_iret C hr dL_warden_22 (Nat.le_of_eq (Nat.zero_add _)) (Nat.le_of_eq (Nat.zero_add _)) ⟨rfl, ⟨ta1, rfl⟩, h3, h4⟩
theorem dL_deed_0 : decode cL_deed 0 = .ok (.aload 7, 2) := by decide +kernel
theorem dL_deed_2 : decode cL_deed 2 = .ok (.iconst 0, 1) := by decide +kernel
theorem dL_deed_3 : decode cL_deed 3 = .ok (.aload_n 0, 1) := by decide +kernel
theorem dL_deed_4 : decode cL_deed 4 = .ok (.iload_n 1, 1) := by decide +kernel
theorem dL_deed_5 : decode cL_deed 5 = .ok (.iload_n 2, 1) := by decide +kernel
theorem dL_deed_6 : decode cL_deed 6 = .ok (.iload_n 3, 1) := by decide +kernel
theorem dL_deed_7 : decode cL_deed 7 = .ok (.iload 4, 2) := by decide +kernel
theorem dL_deed_9 : decode cL_deed 9 = .ok (.iload 5, 2) := by decide +kernel
theorem dL_deed_11 : decode cL_deed 11 = .ok (.iload 6, 2) := by decide +kernel
theorem dL_deed_13 : decode cL_deed 13 = .ok (.invokevirtual 67, 3) := by decide +kernel
theorem dL_deed_16 : decode cL_deed 16 = .ok (.i2l, 1) := by decide +kernel
theorem dL_deed_17 : decode cL_deed 17 = .ok (.lastore, 1) := by decide +kernel
theorem dL_deed_18 : decode cL_deed 18 = .ok (.goto 11, 3) := by decide +kernel
theorem dL_deed_21 : decode cL_deed 21 = .ok (.astore 8, 2) := by decide +kernel
theorem dL_deed_23 : decode cL_deed 23 = .ok (.iconst 1, 1) := by decide +kernel
theorem dL_deed_24 : decode cL_deed 24 = .ok (.ireturn, 1) := by decide +kernel
theorem dL_deed_25 : decode cL_deed 25 = .ok (.astore 8, 2) := by decide +kernel
theorem dL_deed_27 : decode cL_deed 27 = .ok (.iconst 2, 1) := by decide +kernel
theorem dL_deed_28 : decode cL_deed 28 = .ok (.ireturn, 1) := by decide +kernel
theorem dL_deed_29 : decode cL_deed 29 = .ok (.iconst 0, 1) := by decide +kernel
theorem dL_deed_30 : decode cL_deed 30 = .ok (.ireturn, 1) := by decide +kernel
theorem kh_L_deed : Cond.codeWith yL_deed cL_deed 9 (some .int) [(0, 18, 21, 28), (0, 18, 25, 13)] ∈ TT ∧ (yL_deed.cls ≠ "java/lang/invoke/MethodHandle" ∧ yL_deed.cls ≠ "java/lang/invoke/VarHandle") ∧ (parseMethodDescriptor yL_deed.desc).map (fun d => d.parameters.length) = some 8 := ⟨tw_1311, by decide +kernel, by decide +kernel⟩
set_option maxHeartbeats 4000000 in
set_option maxRecDepth 100000 in
theorem z_deed {l : Launch} {g : EG} {ad ta : Nat → Nat} {R1 : va_W} {ao : Nat} {f : Nat → Int64} {σ σ1 : CS} {c0 v0 : Int32} {p0 p1 p2 p3 p4 p5 : Int32} (hl : l.stackTraces = false) (h : f_FC_deed p0 p1 p2 p3 p4 p5 σ = some ((c0, v0), σ1)) (hc : c0 = 0 ∨ c0 = 3 ∨ c0 = 1) (hφ2 : ph σ.2.2 ≤ BB) :
    Ct l g yL_deed (.codeWith yL_deed cL_deed 9 (some .int) [(0, 18, 21, 28), (0, 18, 25, 13)]) 14 330 (BB - ph σ.2.2 + 1) (2 * (BB - ph σ.2.2) + 6) (cw g ad ta σ ++ (R1 ++ [oWl g ao f])) [.ref (ad 0), .int p0, .int p1, .int p2, .int p3, .int p4, .int p5, .ref ao] (QZ g ad R1 ao (ph σ.2.2) (if c0 = 0 then 0 else if c0 = 3 then 1 else 2) σ1 (if c0 = 0 then vp_updL f 0 v0.toInt64 else f)) (ph σ1.2.2 - ph σ.2.2 + 1) (2 * (ph σ1.2.2 - ph σ.2.2) + 6) := by
  refine Ct.ofH rfl (by decide) (Nat.le_of_ble_eq_true rfl) ?_
  intro p e s m args below meth c A C hr htab
  refine nw_lv (lv' := [(0, .ref (ad 0)), (1, .int p0), (2, .int p1), (3, .int p2), (4, .int p3), (5, .int p4), (6, .int p5), (7, .ref ao)]) [0, 1, 2, 3, 4, 5, 6, 7] rfl ?_
  refine nw_aload C dL_deed_0 7 rfl ?_
  refine nw_iconst (v := 0) C dL_deed_2 (by decide) ?_
  refine nw_aload_n C dL_deed_3 rfl 0 rfl ?_
  refine nw_iload_n C dL_deed_4 rfl 1 rfl ?_
  refine nw_iload_n C dL_deed_5 rfl 2 rfl ?_
  refine nw_iload_n C dL_deed_6 rfl 3 rfl ?_
  refine nw_iload C dL_deed_7 4 rfl ?_
  refine nw_iload C dL_deed_9 5 rfl ?_
  refine nw_iload C dL_deed_11 6 rfl ?_
  refine nw_callVX (q0 := 0) (As := [.int p0, .int p1, .int p2, .int p3, .int p4, .int p5]) (rest := [.int 0, .ref ao]) C (c_FC_deed hl h hφ2) tw_1312 kv_X11_deed cl_FC rfl ⟨Nat.le_of_ble_eq_true rfl, Nat.le_of_ble_eq_true rfl⟩ ⟨by show _ ≤ BB - ph σ.2.2 + 1; omega, by show _ ≤ 2 * (BB - ph σ.2.2) + 6; omega⟩ rfl dL_deed_13 rfl (Nat.le_of_ble_eq_true rfl) ?_ ?_
  · rintro w ws1 ⟨hc0, rfl, ⟨ta1, rfl⟩, h3, h4⟩
    have hc0 : c0 = 0 := hc0
    subst hc0
    refine nw_i2l C dL_deed_16 ?_
    refine nw_last C (60 + R1.length) oW_at dL_deed_17 (by unfold vp_in; decide) oW_set ?_
    refine nw_goto (tgt := 29) C dL_deed_18 (by decide) ?_
    refine nw_iconst (v := 0) C dL_deed_29 (by decide) ?_
    exact nw_iret C hr dL_deed_30 (Nat.le_of_eq (Nat.zero_add _)) (Nat.le_of_eq (Nat.zero_add _)) ⟨rfl, ⟨ta1, rfl⟩, h3, h4⟩
  · rintro E ws1 H1 locs1 ls q ce ⟨hc0, hE, ⟨ta1, rfl⟩, h3, h4⟩ hP hD hS hl2 hce hcv hcl
    have hc0 : ¬ c0 = 0 := hc0
    have hE : E = exN c0 := hE
    rcases hc with hc | hc | hc
    · exact absurd hc hc0
    · subst hc
      have hE : E = "java/lang/IndexOutOfBoundsException" := hE
      subst hE
      refine nw_catch (name := "java/lang/IndexOutOfBoundsException") C htab [] ⟨0, 18, 21, 28⟩ [⟨0, 18, 25, 13⟩] rfl (fun z hz => nomatch hz) (by decide) (by decide) tw_985 tw_996 hP hD hS hl2 hce hcv hcl ?_
      refine nw_astore (lv' := [(8, .ref q), (0, .ref (ad 0)), (1, .int p0), (2, .int p1), (3, .int p2), (4, .int p3), (5, .int p4), (6, .int p5), (7, .ref ao)]) C dL_deed_21 (by decide) rfl ?_
      refine nw_iconst (v := 1) C dL_deed_23 (by decide) ?_
      exact nw_iret C hr dL_deed_24 (Nat.le_of_eq (Nat.zero_add _)) (Nat.le_of_eq (Nat.zero_add _)) ⟨rfl, ⟨ta1, rfl⟩, h3, h4⟩
    · subst hc
      have hE : E = "java/lang/IllegalArgumentException" := hE
      subst hE
      refine nw_catch (name := "java/lang/IllegalArgumentException") C htab [⟨0, 18, 21, 28⟩] ⟨0, 18, 25, 13⟩ [] rfl (fun z hz => by rcases List.mem_singleton.mp hz with rfl; exact Or.inr ⟨by decide, "java/lang/IndexOutOfBoundsException", tw_985, nc1⟩) (by decide) (by decide) tw_669 tw_683 hP hD hS hl2 hce hcv hcl ?_
      refine nw_astore (lv' := [(8, .ref q), (0, .ref (ad 0)), (1, .int p0), (2, .int p1), (3, .int p2), (4, .int p3), (5, .int p4), (6, .int p5), (7, .ref ao)]) C dL_deed_25 (by decide) rfl ?_
      refine nw_iconst (v := 2) C dL_deed_27 (by decide) ?_
      exact nw_iret C hr dL_deed_28 (Nat.le_of_eq (Nat.zero_add _)) (Nat.le_of_eq (Nat.zero_add _)) ⟨rfl, ⟨ta1, rfl⟩, h3, h4⟩
theorem dL_barred_0 : decode cL_barred 0 = .ok (.aload_n 2, 1) := by decide +kernel
theorem dL_barred_1 : decode cL_barred 1 = .ok (.iconst 0, 1) := by decide +kernel
theorem dL_barred_2 : decode cL_barred 2 = .ok (.aload_n 0, 1) := by decide +kernel
theorem dL_barred_3 : decode cL_barred 3 = .ok (.iload_n 1, 1) := by decide +kernel
theorem dL_barred_4 : decode cL_barred 4 = .ok (.invokevirtual 71, 3) := by decide +kernel
theorem dL_barred_7 : decode cL_barred 7 = .ok (.ifCond .eq 7, 3) := by decide +kernel
theorem dL_barred_10 : decode cL_barred 10 = .ok (.lconst 1, 1) := by decide +kernel
theorem dL_barred_11 : decode cL_barred 11 = .ok (.goto 4, 3) := by decide +kernel
theorem dL_barred_14 : decode cL_barred 14 = .ok (.lconst 0, 1) := by decide +kernel
theorem dL_barred_15 : decode cL_barred 15 = .ok (.lastore, 1) := by decide +kernel
theorem dL_barred_16 : decode cL_barred 16 = .ok (.goto 6, 3) := by decide +kernel
theorem dL_barred_19 : decode cL_barred 19 = .ok (.astore_n 3, 1) := by decide +kernel
theorem dL_barred_20 : decode cL_barred 20 = .ok (.iconst 1, 1) := by decide +kernel
theorem dL_barred_21 : decode cL_barred 21 = .ok (.ireturn, 1) := by decide +kernel
theorem dL_barred_22 : decode cL_barred 22 = .ok (.iconst 0, 1) := by decide +kernel
theorem dL_barred_23 : decode cL_barred 23 = .ok (.ireturn, 1) := by decide +kernel
theorem kh_L_barred : Cond.codeWith yL_barred cL_barred 4 (some .int) [(0, 16, 19, 28)] ∈ TT ∧ (yL_barred.cls ≠ "java/lang/invoke/MethodHandle" ∧ yL_barred.cls ≠ "java/lang/invoke/VarHandle") ∧ (parseMethodDescriptor yL_barred.desc).map (fun d => d.parameters.length) = some 3 := ⟨tw_1325, by decide +kernel, by decide +kernel⟩
set_option maxHeartbeats 4000000 in
set_option maxRecDepth 100000 in
theorem z_barred {l : Launch} {g : EG} {ad ta : Nat → Nat} {R1 : va_W} {ao : Nat} {f : Nat → Int64} {σ σ1 : CS} {c0 v0 : Int32} {p0 : Int32} (hl : l.stackTraces = false) (h : f_FC_barred p0 σ = some ((c0, v0), σ1)) (hc : c0 = 0 ∨ c0 = 3) (hφ2 : ph σ.2.2 ≤ BB) :
    Ct l g yL_barred (.codeWith yL_barred cL_barred 4 (some .int) [(0, 16, 19, 28)]) 14 325 (BB - ph σ.2.2 + 1) (2 * (BB - ph σ.2.2) + 6) (cw g ad ta σ ++ (R1 ++ [oWl g ao f])) [.ref (ad 0), .int p0, .ref ao] (QZ g ad R1 ao (ph σ.2.2) (if c0 = 0 then 0 else 1) σ1 (if c0 = 0 then vp_updL f 0 (if v0 = 0 then 0 else 1) else f)) (ph σ1.2.2 - ph σ.2.2 + 1) (2 * (ph σ1.2.2 - ph σ.2.2) + 6) := by
  refine Ct.ofH rfl (by decide) (Nat.le_of_ble_eq_true rfl) ?_
  intro p e s m args below meth c A C hr htab
  refine nw_lv (lv' := [(0, .ref (ad 0)), (1, .int p0), (2, .ref ao)]) [0, 1, 2] rfl ?_
  refine nw_aload_n C dL_barred_0 rfl 2 rfl ?_
  refine nw_iconst (v := 0) C dL_barred_1 (by decide) ?_
  refine nw_aload_n C dL_barred_2 rfl 0 rfl ?_
  refine nw_iload_n C dL_barred_3 rfl 1 rfl ?_
  refine nw_callVX (q0 := 0) (As := [.int p0]) (rest := [.int 0, .ref ao]) C (c_FC_barred hl h hφ2) tw_1326 kv_X11_barred cl_FC rfl ⟨Nat.le_of_ble_eq_true rfl, Nat.le_of_ble_eq_true rfl⟩ ⟨by show _ ≤ BB - ph σ.2.2 + 1; omega, by show _ ≤ 2 * (BB - ph σ.2.2) + 6; omega⟩ rfl dL_barred_4 rfl (Nat.le_of_ble_eq_true rfl) ?_ ?_
  · rintro w ws1 ⟨hc0, rfl, ⟨ta1, rfl⟩, h3, h4⟩
    have hc0 : c0 = 0 := hc0
    subst hc0
    have h9 : (if v0 = 0 then some 1 else some 2) = some (if v0 = 0 then 1 else 2) := by split <;> rfl
    refine nw_if_eq (tgt := 14) C dL_barred_7 (by decide) h9 (fun hv _ => ?_) (fun hv _ => ?_)
    · refine nw_lconst (v := 0) C dL_barred_14 (by decide) ?_
      refine nw_last C (60 + R1.length) oW_at dL_barred_15 (by unfold vp_in; decide) oW_set ?_
      refine nw_goto (tgt := 22) C dL_barred_16 (by decide) ?_
      refine nw_iconst (v := 0) C dL_barred_22 (by decide) ?_
      exact nw_iret C hr dL_barred_23 (Nat.le_of_eq (Nat.zero_add _)) (Nat.le_of_eq (Nat.zero_add _)) ⟨rfl, ⟨ta1, by rw [if_pos rfl, if_pos hv]; rfl⟩, h3, h4⟩
    · refine nw_lconst (v := 1) C dL_barred_10 (by decide) ?_
      refine nw_goto (tgt := 15) C dL_barred_11 (by decide) ?_
      refine nw_last C (60 + R1.length) oW_at dL_barred_15 (by unfold vp_in; decide) oW_set ?_
      refine nw_goto (tgt := 22) C dL_barred_16 (by decide) ?_
      refine nw_iconst (v := 0) C dL_barred_22 (by decide) ?_
      exact nw_iret C hr dL_barred_23 (Nat.le_of_eq (Nat.zero_add _)) (Nat.le_of_eq (Nat.zero_add _)) ⟨rfl, ⟨ta1, by rw [if_pos rfl, if_neg hv]; rfl⟩, h3, h4⟩
  · rintro E ws1 H1 locs1 ls q ce ⟨hc0, hE, ⟨ta1, rfl⟩, h3, h4⟩ hP hD hS hl2 hce hcv hcl
    have hc0 : ¬ c0 = 0 := hc0
    have hE : E = exN c0 := hE
    rcases hc with hc | hc
    · exact absurd hc hc0
    · subst hc
      have hE : E = "java/lang/IndexOutOfBoundsException" := hE
      subst hE
      refine nw_catch (name := "java/lang/IndexOutOfBoundsException") C htab [] ⟨0, 16, 19, 28⟩ [] rfl (fun z hz => nomatch hz) (by decide) (by decide) tw_985 tw_996 hP hD hS hl2 hce hcv hcl ?_
      refine nw_astore_n (lv' := [(3, .ref q), (0, .ref (ad 0)), (1, .int p0), (2, .ref ao)]) C dL_barred_19 rfl (by decide) rfl ?_
      refine nw_iconst (v := 1) C dL_barred_20 (by decide) ?_
      exact nw_iret C hr dL_barred_21 (Nat.le_of_eq (Nat.zero_add _)) (Nat.le_of_eq (Nat.zero_add _)) ⟨rfl, ⟨ta1, rfl⟩, h3, h4⟩
theorem dL_why_0 : decode cL_why 0 = .ok (.aload_n 2, 1) := by decide +kernel
theorem dL_why_1 : decode cL_why 1 = .ok (.iconst 0, 1) := by decide +kernel
theorem dL_why_2 : decode cL_why 2 = .ok (.aload_n 0, 1) := by decide +kernel
theorem dL_why_3 : decode cL_why 3 = .ok (.iload_n 1, 1) := by decide +kernel
theorem dL_why_4 : decode cL_why 4 = .ok (.invokevirtual 75, 3) := by decide +kernel
theorem dL_why_7 : decode cL_why 7 = .ok (.i2l, 1) := by decide +kernel
theorem dL_why_8 : decode cL_why 8 = .ok (.lastore, 1) := by decide +kernel
theorem dL_why_9 : decode cL_why 9 = .ok (.goto 6, 3) := by decide +kernel
theorem dL_why_12 : decode cL_why 12 = .ok (.astore_n 3, 1) := by decide +kernel
theorem dL_why_13 : decode cL_why 13 = .ok (.iconst 1, 1) := by decide +kernel
theorem dL_why_14 : decode cL_why 14 = .ok (.ireturn, 1) := by decide +kernel
theorem dL_why_15 : decode cL_why 15 = .ok (.iconst 0, 1) := by decide +kernel
theorem dL_why_16 : decode cL_why 16 = .ok (.ireturn, 1) := by decide +kernel
theorem kh_L_why : Cond.codeWith yL_why cL_why 4 (some .int) [(0, 9, 12, 28)] ∈ TT ∧ (yL_why.cls ≠ "java/lang/invoke/MethodHandle" ∧ yL_why.cls ≠ "java/lang/invoke/VarHandle") ∧ (parseMethodDescriptor yL_why.desc).map (fun d => d.parameters.length) = some 3 := ⟨tw_1364, by decide +kernel, by decide +kernel⟩
set_option maxHeartbeats 4000000 in
set_option maxRecDepth 100000 in
theorem z_why {l : Launch} {g : EG} {ad ta : Nat → Nat} {R1 : va_W} {ao : Nat} {f : Nat → Int64} {σ σ1 : CS} {c0 v0 : Int32} {p0 : Int32} (hl : l.stackTraces = false) (h : f_FC_why p0 σ = some ((c0, v0), σ1)) (hc : c0 = 0 ∨ c0 = 3) (hφ2 : ph σ.2.2 ≤ BB) :
    Ct l g yL_why (.codeWith yL_why cL_why 4 (some .int) [(0, 9, 12, 28)]) 14 325 (BB - ph σ.2.2 + 1) (2 * (BB - ph σ.2.2) + 6) (cw g ad ta σ ++ (R1 ++ [oWl g ao f])) [.ref (ad 0), .int p0, .ref ao] (QZ g ad R1 ao (ph σ.2.2) (if c0 = 0 then 0 else 1) σ1 (if c0 = 0 then vp_updL f 0 v0.toInt64 else f)) (ph σ1.2.2 - ph σ.2.2 + 1) (2 * (ph σ1.2.2 - ph σ.2.2) + 6) := by
  refine Ct.ofH rfl (by decide) (Nat.le_of_ble_eq_true rfl) ?_
  intro p e s m args below meth c A C hr htab
  refine nw_lv (lv' := [(0, .ref (ad 0)), (1, .int p0), (2, .ref ao)]) [0, 1, 2] rfl ?_
  refine nw_aload_n C dL_why_0 rfl 2 rfl ?_
  refine nw_iconst (v := 0) C dL_why_1 (by decide) ?_
  refine nw_aload_n C dL_why_2 rfl 0 rfl ?_
  refine nw_iload_n C dL_why_3 rfl 1 rfl ?_
  refine nw_callVX (q0 := 0) (As := [.int p0]) (rest := [.int 0, .ref ao]) C (c_FC_why hl h hφ2) tw_1365 kv_X11_why cl_FC rfl ⟨Nat.le_of_ble_eq_true rfl, Nat.le_of_ble_eq_true rfl⟩ ⟨by show _ ≤ BB - ph σ.2.2 + 1; omega, by show _ ≤ 2 * (BB - ph σ.2.2) + 6; omega⟩ rfl dL_why_4 rfl (Nat.le_of_ble_eq_true rfl) ?_ ?_
  · rintro w ws1 ⟨hc0, rfl, ⟨ta1, rfl⟩, h3, h4⟩
    have hc0 : c0 = 0 := hc0
    subst hc0
    refine nw_i2l C dL_why_7 ?_
    refine nw_last C (60 + R1.length) oW_at dL_why_8 (by unfold vp_in; decide) oW_set ?_
    refine nw_goto (tgt := 15) C dL_why_9 (by decide) ?_
    refine nw_iconst (v := 0) C dL_why_15 (by decide) ?_
    exact nw_iret C hr dL_why_16 (Nat.le_of_eq (Nat.zero_add _)) (Nat.le_of_eq (Nat.zero_add _)) ⟨rfl, ⟨ta1, rfl⟩, h3, h4⟩
  · rintro E ws1 H1 locs1 ls q ce ⟨hc0, hE, ⟨ta1, rfl⟩, h3, h4⟩ hP hD hS hl2 hce hcv hcl
    have hc0 : ¬ c0 = 0 := hc0
    have hE : E = exN c0 := hE
    rcases hc with hc | hc
    · exact absurd hc hc0
    · subst hc
      have hE : E = "java/lang/IndexOutOfBoundsException" := hE
      subst hE
      refine nw_catch (name := "java/lang/IndexOutOfBoundsException") C htab [] ⟨0, 9, 12, 28⟩ [] rfl (fun z hz => nomatch hz) (by decide) (by decide) tw_985 tw_996 hP hD hS hl2 hce hcv hcl ?_
      refine nw_astore_n (lv' := [(3, .ref q), (0, .ref (ad 0)), (1, .int p0), (2, .ref ao)]) C dL_why_12 rfl (by decide) rfl ?_
      refine nw_iconst (v := 1) C dL_why_13 (by decide) ?_
      exact nw_iret C hr dL_why_14 (Nat.le_of_eq (Nat.zero_add _)) (Nat.le_of_eq (Nat.zero_add _)) ⟨rfl, ⟨ta1, rfl⟩, h3, h4⟩
theorem dL_fine_0 : decode cL_fine 0 = .ok (.aload_n 2, 1) := by decide +kernel
theorem dL_fine_1 : decode cL_fine 1 = .ok (.iconst 0, 1) := by decide +kernel
theorem dL_fine_2 : decode cL_fine 2 = .ok (.aload_n 0, 1) := by decide +kernel
theorem dL_fine_3 : decode cL_fine 3 = .ok (.iload_n 1, 1) := by decide +kernel
theorem dL_fine_4 : decode cL_fine 4 = .ok (.invokevirtual 78, 3) := by decide +kernel
theorem dL_fine_7 : decode cL_fine 7 = .ok (.i2l, 1) := by decide +kernel
theorem dL_fine_8 : decode cL_fine 8 = .ok (.lastore, 1) := by decide +kernel
theorem dL_fine_9 : decode cL_fine 9 = .ok (.goto 6, 3) := by decide +kernel
theorem dL_fine_12 : decode cL_fine 12 = .ok (.astore_n 3, 1) := by decide +kernel
theorem dL_fine_13 : decode cL_fine 13 = .ok (.iconst 1, 1) := by decide +kernel
theorem dL_fine_14 : decode cL_fine 14 = .ok (.ireturn, 1) := by decide +kernel
theorem dL_fine_15 : decode cL_fine 15 = .ok (.iconst 0, 1) := by decide +kernel
theorem dL_fine_16 : decode cL_fine 16 = .ok (.ireturn, 1) := by decide +kernel
theorem kh_L_fine : Cond.codeWith yL_fine cL_fine 4 (some .int) [(0, 9, 12, 28)] ∈ TT ∧ (yL_fine.cls ≠ "java/lang/invoke/MethodHandle" ∧ yL_fine.cls ≠ "java/lang/invoke/VarHandle") ∧ (parseMethodDescriptor yL_fine.desc).map (fun d => d.parameters.length) = some 3 := ⟨tw_1376, by decide +kernel, by decide +kernel⟩
set_option maxHeartbeats 4000000 in
set_option maxRecDepth 100000 in
theorem z_fine {l : Launch} {g : EG} {ad ta : Nat → Nat} {R1 : va_W} {ao : Nat} {f : Nat → Int64} {σ σ1 : CS} {c0 v0 : Int32} {p0 : Int32} (hl : l.stackTraces = false) (h : f_FC_fine p0 σ = some ((c0, v0), σ1)) (hc : c0 = 0 ∨ c0 = 3) (hφ2 : ph σ.2.2 ≤ BB) :
    Ct l g yL_fine (.codeWith yL_fine cL_fine 4 (some .int) [(0, 9, 12, 28)]) 14 325 (BB - ph σ.2.2 + 1) (2 * (BB - ph σ.2.2) + 6) (cw g ad ta σ ++ (R1 ++ [oWl g ao f])) [.ref (ad 0), .int p0, .ref ao] (QZ g ad R1 ao (ph σ.2.2) (if c0 = 0 then 0 else 1) σ1 (if c0 = 0 then vp_updL f 0 v0.toInt64 else f)) (ph σ1.2.2 - ph σ.2.2 + 1) (2 * (ph σ1.2.2 - ph σ.2.2) + 6) := by
  refine Ct.ofH rfl (by decide) (Nat.le_of_ble_eq_true rfl) ?_
  intro p e s m args below meth c A C hr htab
  refine nw_lv (lv' := [(0, .ref (ad 0)), (1, .int p0), (2, .ref ao)]) [0, 1, 2] rfl ?_
  refine nw_aload_n C dL_fine_0 rfl 2 rfl ?_
  refine nw_iconst (v := 0) C dL_fine_1 (by decide) ?_
  refine nw_aload_n C dL_fine_2 rfl 0 rfl ?_
  refine nw_iload_n C dL_fine_3 rfl 1 rfl ?_
  refine nw_callVX (q0 := 0) (As := [.int p0]) (rest := [.int 0, .ref ao]) C (c_FC_fine hl h hφ2) tw_1377 kv_X11_fine cl_FC rfl ⟨Nat.le_of_ble_eq_true rfl, Nat.le_of_ble_eq_true rfl⟩ ⟨by show _ ≤ BB - ph σ.2.2 + 1; omega, by show _ ≤ 2 * (BB - ph σ.2.2) + 6; omega⟩ rfl dL_fine_4 rfl (Nat.le_of_ble_eq_true rfl) ?_ ?_
  · rintro w ws1 ⟨hc0, rfl, ⟨ta1, rfl⟩, h3, h4⟩
    have hc0 : c0 = 0 := hc0
    subst hc0
    refine nw_i2l C dL_fine_7 ?_
    refine nw_last C (60 + R1.length) oW_at dL_fine_8 (by unfold vp_in; decide) oW_set ?_
    refine nw_goto (tgt := 15) C dL_fine_9 (by decide) ?_
    refine nw_iconst (v := 0) C dL_fine_15 (by decide) ?_
    exact nw_iret C hr dL_fine_16 (Nat.le_of_eq (Nat.zero_add _)) (Nat.le_of_eq (Nat.zero_add _)) ⟨rfl, ⟨ta1, rfl⟩, h3, h4⟩
  · rintro E ws1 H1 locs1 ls q ce ⟨hc0, hE, ⟨ta1, rfl⟩, h3, h4⟩ hP hD hS hl2 hce hcv hcl
    have hc0 : ¬ c0 = 0 := hc0
    have hE : E = exN c0 := hE
    rcases hc with hc | hc
    · exact absurd hc hc0
    · subst hc
      have hE : E = "java/lang/IndexOutOfBoundsException" := hE
      subst hE
      refine nw_catch (name := "java/lang/IndexOutOfBoundsException") C htab [] ⟨0, 9, 12, 28⟩ [] rfl (fun z hz => nomatch hz) (by decide) (by decide) tw_985 tw_996 hP hD hS hl2 hce hcv hcl ?_
      refine nw_astore_n (lv' := [(3, .ref q), (0, .ref (ad 0)), (1, .int p0), (2, .ref ao)]) C dL_fine_12 rfl (by decide) rfl ?_
      refine nw_iconst (v := 1) C dL_fine_13 (by decide) ?_
      exact nw_iret C hr dL_fine_14 (Nat.le_of_eq (Nat.zero_add _)) (Nat.le_of_eq (Nat.zero_add _)) ⟨rfl, ⟨ta1, rfl⟩, h3, h4⟩
theorem dL_present_0 : decode cL_present 0 = .ok (.aload 5, 2) := by decide +kernel
theorem dL_present_2 : decode cL_present 2 = .ok (.iconst 0, 1) := by decide +kernel
theorem dL_present_3 : decode cL_present 3 = .ok (.aload_n 0, 1) := by decide +kernel
theorem dL_present_4 : decode cL_present 4 = .ok (.iload_n 1, 1) := by decide +kernel
theorem dL_present_5 : decode cL_present 5 = .ok (.iload_n 2, 1) := by decide +kernel
theorem dL_present_6 : decode cL_present 6 = .ok (.iload_n 3, 1) := by decide +kernel
theorem dL_present_7 : decode cL_present 7 = .ok (.iload 4, 2) := by decide +kernel
theorem dL_present_9 : decode cL_present 9 = .ok (.invokevirtual 81, 3) := by decide +kernel
theorem dL_present_12 : decode cL_present 12 = .ok (.i2l, 1) := by decide +kernel
theorem dL_present_13 : decode cL_present 13 = .ok (.lastore, 1) := by decide +kernel
theorem dL_present_14 : decode cL_present 14 = .ok (.goto 7, 3) := by decide +kernel
theorem dL_present_17 : decode cL_present 17 = .ok (.astore 6, 2) := by decide +kernel
theorem dL_present_19 : decode cL_present 19 = .ok (.iconst 1, 1) := by decide +kernel
theorem dL_present_20 : decode cL_present 20 = .ok (.ireturn, 1) := by decide +kernel
theorem dL_present_21 : decode cL_present 21 = .ok (.iconst 0, 1) := by decide +kernel
theorem dL_present_22 : decode cL_present 22 = .ok (.ireturn, 1) := by decide +kernel
theorem kh_L_present : Cond.codeWith yL_present cL_present 7 (some .int) [(0, 14, 17, 28)] ∈ TT ∧ (yL_present.cls ≠ "java/lang/invoke/MethodHandle" ∧ yL_present.cls ≠ "java/lang/invoke/VarHandle") ∧ (parseMethodDescriptor yL_present.desc).map (fun d => d.parameters.length) = some 6 := ⟨tw_1384, by decide +kernel, by decide +kernel⟩
set_option maxHeartbeats 4000000 in
set_option maxRecDepth 100000 in
theorem z_present {l : Launch} {g : EG} {ad ta : Nat → Nat} {R1 : va_W} {ao : Nat} {f : Nat → Int64} {σ σ1 : CS} {c0 v0 : Int32} {p0 p1 p2 p3 : Int32} (hl : l.stackTraces = false) (h : f_FC_present p0 p1 p2 p3 σ = some ((c0, v0), σ1)) (hc : c0 = 0 ∨ c0 = 3) (hφ2 : ph σ.2.2 ≤ BB) :
    Ct l g yL_present (.codeWith yL_present cL_present 7 (some .int) [(0, 14, 17, 28)]) 14 328 (BB - ph σ.2.2 + 1) (2 * (BB - ph σ.2.2) + 6) (cw g ad ta σ ++ (R1 ++ [oWl g ao f])) [.ref (ad 0), .int p0, .int p1, .int p2, .int p3, .ref ao] (QZ g ad R1 ao (ph σ.2.2) (if c0 = 0 then 0 else 1) σ1 (if c0 = 0 then vp_updL f 0 v0.toInt64 else f)) (ph σ1.2.2 - ph σ.2.2 + 1) (2 * (ph σ1.2.2 - ph σ.2.2) + 6) := by
  refine Ct.ofH rfl (by decide) (Nat.le_of_ble_eq_true rfl) ?_
  intro p e s m args below meth c A C hr htab
  refine nw_lv (lv' := [(0, .ref (ad 0)), (1, .int p0), (2, .int p1), (3, .int p2), (4, .int p3), (5, .ref ao)]) [0, 1, 2, 3, 4, 5] rfl ?_
  refine nw_aload C dL_present_0 5 rfl ?_
  refine nw_iconst (v := 0) C dL_present_2 (by decide) ?_
  refine nw_aload_n C dL_present_3 rfl 0 rfl ?_
  refine nw_iload_n C dL_present_4 rfl 1 rfl ?_
  refine nw_iload_n C dL_present_5 rfl 2 rfl ?_
  refine nw_iload_n C dL_present_6 rfl 3 rfl ?_
  refine nw_iload C dL_present_7 4 rfl ?_
  refine nw_callVX (q0 := 0) (As := [.int p0, .int p1, .int p2, .int p3]) (rest := [.int 0, .ref ao]) C (c_FC_present hl h hφ2) tw_1385 kv_X11_present cl_FC rfl ⟨Nat.le_of_ble_eq_true rfl, Nat.le_of_ble_eq_true rfl⟩ ⟨by show _ ≤ BB - ph σ.2.2 + 1; omega, by show _ ≤ 2 * (BB - ph σ.2.2) + 6; omega⟩ rfl dL_present_9 rfl (Nat.le_of_ble_eq_true rfl) ?_ ?_
  · rintro w ws1 ⟨hc0, rfl, ⟨ta1, rfl⟩, h3, h4⟩
    have hc0 : c0 = 0 := hc0
    subst hc0
    refine nw_i2l C dL_present_12 ?_
    refine nw_last C (60 + R1.length) oW_at dL_present_13 (by unfold vp_in; decide) oW_set ?_
    refine nw_goto (tgt := 21) C dL_present_14 (by decide) ?_
    refine nw_iconst (v := 0) C dL_present_21 (by decide) ?_
    exact nw_iret C hr dL_present_22 (Nat.le_of_eq (Nat.zero_add _)) (Nat.le_of_eq (Nat.zero_add _)) ⟨rfl, ⟨ta1, rfl⟩, h3, h4⟩
  · rintro E ws1 H1 locs1 ls q ce ⟨hc0, hE, ⟨ta1, rfl⟩, h3, h4⟩ hP hD hS hl2 hce hcv hcl
    have hc0 : ¬ c0 = 0 := hc0
    have hE : E = exN c0 := hE
    rcases hc with hc | hc
    · exact absurd hc hc0
    · subst hc
      have hE : E = "java/lang/IndexOutOfBoundsException" := hE
      subst hE
      refine nw_catch (name := "java/lang/IndexOutOfBoundsException") C htab [] ⟨0, 14, 17, 28⟩ [] rfl (fun z hz => nomatch hz) (by decide) (by decide) tw_985 tw_996 hP hD hS hl2 hce hcv hcl ?_
      refine nw_astore (lv' := [(6, .ref q), (0, .ref (ad 0)), (1, .int p0), (2, .int p1), (3, .int p2), (4, .int p3), (5, .ref ao)]) C dL_present_17 (by decide) rfl ?_
      refine nw_iconst (v := 1) C dL_present_19 (by decide) ?_
      exact nw_iret C hr dL_present_20 (Nat.le_of_eq (Nat.zero_add _)) (Nat.le_of_eq (Nat.zero_add _)) ⟨rfl, ⟨ta1, rfl⟩, h3, h4⟩
theorem dL_proof_0 : decode cL_proof 0 = .ok (.aload_n 3, 1) := by decide +kernel
theorem dL_proof_1 : decode cL_proof 1 = .ok (.iconst 0, 1) := by decide +kernel
theorem dL_proof_2 : decode cL_proof 2 = .ok (.aload_n 0, 1) := by decide +kernel
theorem dL_proof_3 : decode cL_proof 3 = .ok (.iload_n 1, 1) := by decide +kernel
theorem dL_proof_4 : decode cL_proof 4 = .ok (.iload_n 2, 1) := by decide +kernel
theorem dL_proof_5 : decode cL_proof 5 = .ok (.invokevirtual 85, 3) := by decide +kernel
theorem dL_proof_8 : decode cL_proof 8 = .ok (.i2l, 1) := by decide +kernel
theorem dL_proof_9 : decode cL_proof 9 = .ok (.lastore, 1) := by decide +kernel
theorem dL_proof_10 : decode cL_proof 10 = .ok (.goto 11, 3) := by decide +kernel
theorem dL_proof_13 : decode cL_proof 13 = .ok (.astore 4, 2) := by decide +kernel
theorem dL_proof_15 : decode cL_proof 15 = .ok (.iconst 1, 1) := by decide +kernel
theorem dL_proof_16 : decode cL_proof 16 = .ok (.ireturn, 1) := by decide +kernel
theorem dL_proof_17 : decode cL_proof 17 = .ok (.astore 4, 2) := by decide +kernel
theorem dL_proof_19 : decode cL_proof 19 = .ok (.iconst 2, 1) := by decide +kernel
theorem dL_proof_20 : decode cL_proof 20 = .ok (.ireturn, 1) := by decide +kernel
theorem dL_proof_21 : decode cL_proof 21 = .ok (.iconst 0, 1) := by decide +kernel
theorem dL_proof_22 : decode cL_proof 22 = .ok (.ireturn, 1) := by decide +kernel
theorem kh_L_proof : Cond.codeWith yL_proof cL_proof 5 (some .int) [(0, 10, 13, 28), (0, 10, 17, 13)] ∈ TT ∧ (yL_proof.cls ≠ "java/lang/invoke/MethodHandle" ∧ yL_proof.cls ≠ "java/lang/invoke/VarHandle") ∧ (parseMethodDescriptor yL_proof.desc).map (fun d => d.parameters.length) = some 4 := ⟨tw_1397, by decide +kernel, by decide +kernel⟩
set_option maxHeartbeats 4000000 in
set_option maxRecDepth 100000 in
theorem z_proof {l : Launch} {g : EG} {ad ta : Nat → Nat} {R1 : va_W} {ao : Nat} {f : Nat → Int64} {σ σ1 : CS} {c0 v0 : Int32} {p0 p1 : Int32} (hl : l.stackTraces = false) (h : f_FC_proof p0 p1 σ = some ((c0, v0), σ1)) (hc : c0 = 0 ∨ c0 = 3 ∨ c0 = 1) (hφ2 : ph σ.2.2 ≤ BB) :
    Ct l g yL_proof (.codeWith yL_proof cL_proof 5 (some .int) [(0, 10, 13, 28), (0, 10, 17, 13)]) 14 326 (BB - ph σ.2.2 + 1) (2 * (BB - ph σ.2.2) + 6) (cw g ad ta σ ++ (R1 ++ [oWl g ao f])) [.ref (ad 0), .int p0, .int p1, .ref ao] (QZ g ad R1 ao (ph σ.2.2) (if c0 = 0 then 0 else if c0 = 3 then 1 else 2) σ1 (if c0 = 0 then vp_updL f 0 v0.toInt64 else f)) (ph σ1.2.2 - ph σ.2.2 + 1) (2 * (ph σ1.2.2 - ph σ.2.2) + 6) := by
  refine Ct.ofH rfl (by decide) (Nat.le_of_ble_eq_true rfl) ?_
  intro p e s m args below meth c A C hr htab
  refine nw_lv (lv' := [(0, .ref (ad 0)), (1, .int p0), (2, .int p1), (3, .ref ao)]) [0, 1, 2, 3] rfl ?_
  refine nw_aload_n C dL_proof_0 rfl 3 rfl ?_
  refine nw_iconst (v := 0) C dL_proof_1 (by decide) ?_
  refine nw_aload_n C dL_proof_2 rfl 0 rfl ?_
  refine nw_iload_n C dL_proof_3 rfl 1 rfl ?_
  refine nw_iload_n C dL_proof_4 rfl 2 rfl ?_
  refine nw_callVX (q0 := 0) (As := [.int p0, .int p1]) (rest := [.int 0, .ref ao]) C (c_FC_proof hl h hφ2) tw_1398 kv_X11_proof cl_FC rfl ⟨Nat.le_of_ble_eq_true rfl, Nat.le_of_ble_eq_true rfl⟩ ⟨by show _ ≤ BB - ph σ.2.2 + 1; omega, by show _ ≤ 2 * (BB - ph σ.2.2) + 6; omega⟩ rfl dL_proof_5 rfl (Nat.le_of_ble_eq_true rfl) ?_ ?_
  · rintro w ws1 ⟨hc0, rfl, ⟨ta1, rfl⟩, h3, h4⟩
    have hc0 : c0 = 0 := hc0
    subst hc0
    refine nw_i2l C dL_proof_8 ?_
    refine nw_last C (60 + R1.length) oW_at dL_proof_9 (by unfold vp_in; decide) oW_set ?_
    refine nw_goto (tgt := 21) C dL_proof_10 (by decide) ?_
    refine nw_iconst (v := 0) C dL_proof_21 (by decide) ?_
    exact nw_iret C hr dL_proof_22 (Nat.le_of_eq (Nat.zero_add _)) (Nat.le_of_eq (Nat.zero_add _)) ⟨rfl, ⟨ta1, rfl⟩, h3, h4⟩
  · rintro E ws1 H1 locs1 ls q ce ⟨hc0, hE, ⟨ta1, rfl⟩, h3, h4⟩ hP hD hS hl2 hce hcv hcl
    have hc0 : ¬ c0 = 0 := hc0
    have hE : E = exN c0 := hE
    rcases hc with hc | hc | hc
    · exact absurd hc hc0
    · subst hc
      have hE : E = "java/lang/IndexOutOfBoundsException" := hE
      subst hE
      refine nw_catch (name := "java/lang/IndexOutOfBoundsException") C htab [] ⟨0, 10, 13, 28⟩ [⟨0, 10, 17, 13⟩] rfl (fun z hz => nomatch hz) (by decide) (by decide) tw_985 tw_996 hP hD hS hl2 hce hcv hcl ?_
      refine nw_astore (lv' := [(4, .ref q), (0, .ref (ad 0)), (1, .int p0), (2, .int p1), (3, .ref ao)]) C dL_proof_13 (by decide) rfl ?_
      refine nw_iconst (v := 1) C dL_proof_15 (by decide) ?_
      exact nw_iret C hr dL_proof_16 (Nat.le_of_eq (Nat.zero_add _)) (Nat.le_of_eq (Nat.zero_add _)) ⟨rfl, ⟨ta1, rfl⟩, h3, h4⟩
    · subst hc
      have hE : E = "java/lang/IllegalArgumentException" := hE
      subst hE
      refine nw_catch (name := "java/lang/IllegalArgumentException") C htab [⟨0, 10, 13, 28⟩] ⟨0, 10, 17, 13⟩ [] rfl (fun z hz => by rcases List.mem_singleton.mp hz with rfl; exact Or.inr ⟨by decide, "java/lang/IndexOutOfBoundsException", tw_985, nc1⟩) (by decide) (by decide) tw_669 tw_683 hP hD hS hl2 hce hcv hcl ?_
      refine nw_astore (lv' := [(4, .ref q), (0, .ref (ad 0)), (1, .int p0), (2, .int p1), (3, .ref ao)]) C dL_proof_17 (by decide) rfl ?_
      refine nw_iconst (v := 2) C dL_proof_19 (by decide) ?_
      exact nw_iret C hr dL_proof_20 (Nat.le_of_eq (Nat.zero_add _)) (Nat.le_of_eq (Nat.zero_add _)) ⟨rfl, ⟨ta1, rfl⟩, h3, h4⟩
theorem dL_of_0 : decode cL_of 0 = .ok (.aload_n 3, 1) := by decide +kernel
theorem dL_of_1 : decode cL_of 1 = .ok (.iconst 0, 1) := by decide +kernel
theorem dL_of_2 : decode cL_of 2 = .ok (.aload_n 0, 1) := by decide +kernel
theorem dL_of_3 : decode cL_of 3 = .ok (.iload_n 1, 1) := by decide +kernel
theorem dL_of_4 : decode cL_of 4 = .ok (.iload_n 2, 1) := by decide +kernel
theorem dL_of_5 : decode cL_of 5 = .ok (.invokevirtual 88, 3) := by decide +kernel
theorem dL_of_8 : decode cL_of 8 = .ok (.i2l, 1) := by decide +kernel
theorem dL_of_9 : decode cL_of 9 = .ok (.lastore, 1) := by decide +kernel
theorem dL_of_10 : decode cL_of 10 = .ok (.goto 11, 3) := by decide +kernel
theorem dL_of_13 : decode cL_of 13 = .ok (.astore 4, 2) := by decide +kernel
theorem dL_of_15 : decode cL_of 15 = .ok (.iconst 1, 1) := by decide +kernel
theorem dL_of_16 : decode cL_of 16 = .ok (.ireturn, 1) := by decide +kernel
theorem dL_of_17 : decode cL_of 17 = .ok (.astore 4, 2) := by decide +kernel
theorem dL_of_19 : decode cL_of 19 = .ok (.iconst 2, 1) := by decide +kernel
theorem dL_of_20 : decode cL_of 20 = .ok (.ireturn, 1) := by decide +kernel
theorem dL_of_21 : decode cL_of 21 = .ok (.iconst 0, 1) := by decide +kernel
theorem dL_of_22 : decode cL_of 22 = .ok (.ireturn, 1) := by decide +kernel
theorem kh_L_of : Cond.codeWith yL_of cL_of 5 (some .int) [(0, 10, 13, 28), (0, 10, 17, 13)] ∈ TT ∧ (yL_of.cls ≠ "java/lang/invoke/MethodHandle" ∧ yL_of.cls ≠ "java/lang/invoke/VarHandle") ∧ (parseMethodDescriptor yL_of.desc).map (fun d => d.parameters.length) = some 4 := ⟨tw_1408, by decide +kernel, by decide +kernel⟩
set_option maxHeartbeats 4000000 in
set_option maxRecDepth 100000 in
theorem z_of {l : Launch} {g : EG} {ad ta : Nat → Nat} {R1 : va_W} {ao : Nat} {f : Nat → Int64} {σ σ1 : CS} {c0 v0 : Int32} {p0 p1 : Int32} (hl : l.stackTraces = false) (h : f_FC_of p0 p1 σ = some ((c0, v0), σ1)) (hc : c0 = 0 ∨ c0 = 3 ∨ c0 = 1) (hφ2 : ph σ.2.2 ≤ BB) :
    Ct l g yL_of (.codeWith yL_of cL_of 5 (some .int) [(0, 10, 13, 28), (0, 10, 17, 13)]) 14 326 (BB - ph σ.2.2 + 1) (2 * (BB - ph σ.2.2) + 6) (cw g ad ta σ ++ (R1 ++ [oWl g ao f])) [.ref (ad 0), .int p0, .int p1, .ref ao] (QZ g ad R1 ao (ph σ.2.2) (if c0 = 0 then 0 else if c0 = 3 then 1 else 2) σ1 (if c0 = 0 then vp_updL f 0 v0.toInt64 else f)) (ph σ1.2.2 - ph σ.2.2 + 1) (2 * (ph σ1.2.2 - ph σ.2.2) + 6) := by
  refine Ct.ofH rfl (by decide) (Nat.le_of_ble_eq_true rfl) ?_
  intro p e s m args below meth c A C hr htab
  refine nw_lv (lv' := [(0, .ref (ad 0)), (1, .int p0), (2, .int p1), (3, .ref ao)]) [0, 1, 2, 3] rfl ?_
  refine nw_aload_n C dL_of_0 rfl 3 rfl ?_
  refine nw_iconst (v := 0) C dL_of_1 (by decide) ?_
  refine nw_aload_n C dL_of_2 rfl 0 rfl ?_
  refine nw_iload_n C dL_of_3 rfl 1 rfl ?_
  refine nw_iload_n C dL_of_4 rfl 2 rfl ?_
  refine nw_callVX (q0 := 0) (As := [.int p0, .int p1]) (rest := [.int 0, .ref ao]) C (c_FC_of hl h hφ2) tw_1409 kv_X11_of cl_FC rfl ⟨Nat.le_of_ble_eq_true rfl, Nat.le_of_ble_eq_true rfl⟩ ⟨by show _ ≤ BB - ph σ.2.2 + 1; omega, by show _ ≤ 2 * (BB - ph σ.2.2) + 6; omega⟩ rfl dL_of_5 rfl (Nat.le_of_ble_eq_true rfl) ?_ ?_
  · rintro w ws1 ⟨hc0, rfl, ⟨ta1, rfl⟩, h3, h4⟩
    have hc0 : c0 = 0 := hc0
    subst hc0
    refine nw_i2l C dL_of_8 ?_
    refine nw_last C (60 + R1.length) oW_at dL_of_9 (by unfold vp_in; decide) oW_set ?_
    refine nw_goto (tgt := 21) C dL_of_10 (by decide) ?_
    refine nw_iconst (v := 0) C dL_of_21 (by decide) ?_
    exact nw_iret C hr dL_of_22 (Nat.le_of_eq (Nat.zero_add _)) (Nat.le_of_eq (Nat.zero_add _)) ⟨rfl, ⟨ta1, rfl⟩, h3, h4⟩
  · rintro E ws1 H1 locs1 ls q ce ⟨hc0, hE, ⟨ta1, rfl⟩, h3, h4⟩ hP hD hS hl2 hce hcv hcl
    have hc0 : ¬ c0 = 0 := hc0
    have hE : E = exN c0 := hE
    rcases hc with hc | hc | hc
    · exact absurd hc hc0
    · subst hc
      have hE : E = "java/lang/IndexOutOfBoundsException" := hE
      subst hE
      refine nw_catch (name := "java/lang/IndexOutOfBoundsException") C htab [] ⟨0, 10, 13, 28⟩ [⟨0, 10, 17, 13⟩] rfl (fun z hz => nomatch hz) (by decide) (by decide) tw_985 tw_996 hP hD hS hl2 hce hcv hcl ?_
      refine nw_astore (lv' := [(4, .ref q), (0, .ref (ad 0)), (1, .int p0), (2, .int p1), (3, .ref ao)]) C dL_of_13 (by decide) rfl ?_
      refine nw_iconst (v := 1) C dL_of_15 (by decide) ?_
      exact nw_iret C hr dL_of_16 (Nat.le_of_eq (Nat.zero_add _)) (Nat.le_of_eq (Nat.zero_add _)) ⟨rfl, ⟨ta1, rfl⟩, h3, h4⟩
    · subst hc
      have hE : E = "java/lang/IllegalArgumentException" := hE
      subst hE
      refine nw_catch (name := "java/lang/IllegalArgumentException") C htab [⟨0, 10, 13, 28⟩] ⟨0, 10, 17, 13⟩ [] rfl (fun z hz => by rcases List.mem_singleton.mp hz with rfl; exact Or.inr ⟨by decide, "java/lang/IndexOutOfBoundsException", tw_985, nc1⟩) (by decide) (by decide) tw_669 tw_683 hP hD hS hl2 hce hcv hcl ?_
      refine nw_astore (lv' := [(4, .ref q), (0, .ref (ad 0)), (1, .int p0), (2, .int p1), (3, .ref ao)]) C dL_of_17 (by decide) rfl ?_
      refine nw_iconst (v := 2) C dL_of_19 (by decide) ?_
      exact nw_iret C hr dL_of_20 (Nat.le_of_eq (Nat.zero_add _)) (Nat.le_of_eq (Nat.zero_add _)) ⟨rfl, ⟨ta1, rfl⟩, h3, h4⟩
theorem dL_claim_0 : decode cL_claim 0 = .ok (.aload 5, 2) := by decide +kernel
theorem dL_claim_2 : decode cL_claim 2 = .ok (.iconst 0, 1) := by decide +kernel
theorem dL_claim_3 : decode cL_claim 3 = .ok (.aload_n 0, 1) := by decide +kernel
theorem dL_claim_4 : decode cL_claim 4 = .ok (.iload_n 1, 1) := by decide +kernel
theorem dL_claim_5 : decode cL_claim 5 = .ok (.iload_n 2, 1) := by decide +kernel
theorem dL_claim_6 : decode cL_claim 6 = .ok (.iload_n 3, 1) := by decide +kernel
theorem dL_claim_7 : decode cL_claim 7 = .ok (.iload 4, 2) := by decide +kernel
theorem dL_claim_9 : decode cL_claim 9 = .ok (.invokevirtual 91, 3) := by decide +kernel
theorem dL_claim_12 : decode cL_claim 12 = .ok (.i2l, 1) := by decide +kernel
theorem dL_claim_13 : decode cL_claim 13 = .ok (.lastore, 1) := by decide +kernel
theorem dL_claim_14 : decode cL_claim 14 = .ok (.goto 11, 3) := by decide +kernel
theorem dL_claim_17 : decode cL_claim 17 = .ok (.astore 6, 2) := by decide +kernel
theorem dL_claim_19 : decode cL_claim 19 = .ok (.iconst 1, 1) := by decide +kernel
theorem dL_claim_20 : decode cL_claim 20 = .ok (.ireturn, 1) := by decide +kernel
theorem dL_claim_21 : decode cL_claim 21 = .ok (.astore 6, 2) := by decide +kernel
theorem dL_claim_23 : decode cL_claim 23 = .ok (.iconst 2, 1) := by decide +kernel
theorem dL_claim_24 : decode cL_claim 24 = .ok (.ireturn, 1) := by decide +kernel
theorem dL_claim_25 : decode cL_claim 25 = .ok (.iconst 0, 1) := by decide +kernel
theorem dL_claim_26 : decode cL_claim 26 = .ok (.ireturn, 1) := by decide +kernel
theorem kh_L_claim : Cond.codeWith yL_claim cL_claim 7 (some .int) [(0, 14, 17, 28), (0, 14, 21, 13)] ∈ TT ∧ (yL_claim.cls ≠ "java/lang/invoke/MethodHandle" ∧ yL_claim.cls ≠ "java/lang/invoke/VarHandle") ∧ (parseMethodDescriptor yL_claim.desc).map (fun d => d.parameters.length) = some 6 := ⟨tw_1415, by decide +kernel, by decide +kernel⟩
set_option maxHeartbeats 4000000 in
set_option maxRecDepth 100000 in
theorem z_claim {l : Launch} {g : EG} {ad ta : Nat → Nat} {R1 : va_W} {ao : Nat} {f : Nat → Int64} {σ σ1 : CS} {c0 v0 : Int32} {p0 p1 p2 p3 : Int32} (hl : l.stackTraces = false) (h : f_FC_claim p0 p1 p2 p3 σ = some ((c0, v0), σ1)) (hc : c0 = 0 ∨ c0 = 3 ∨ c0 = 1) (hφ2 : ph σ.2.2 ≤ BB) :
    Ct l g yL_claim (.codeWith yL_claim cL_claim 7 (some .int) [(0, 14, 17, 28), (0, 14, 21, 13)]) 14 328 (BB - ph σ.2.2 + 1) (2 * (BB - ph σ.2.2) + 6) (cw g ad ta σ ++ (R1 ++ [oWl g ao f])) [.ref (ad 0), .int p0, .int p1, .int p2, .int p3, .ref ao] (QZ g ad R1 ao (ph σ.2.2) (if c0 = 0 then 0 else if c0 = 3 then 1 else 2) σ1 (if c0 = 0 then vp_updL f 0 v0.toInt64 else f)) (ph σ1.2.2 - ph σ.2.2 + 1) (2 * (ph σ1.2.2 - ph σ.2.2) + 6) := by
  refine Ct.ofH rfl (by decide) (Nat.le_of_ble_eq_true rfl) ?_
  intro p e s m args below meth c A C hr htab
  refine nw_lv (lv' := [(0, .ref (ad 0)), (1, .int p0), (2, .int p1), (3, .int p2), (4, .int p3), (5, .ref ao)]) [0, 1, 2, 3, 4, 5] rfl ?_
  refine nw_aload C dL_claim_0 5 rfl ?_
  refine nw_iconst (v := 0) C dL_claim_2 (by decide) ?_
  refine nw_aload_n C dL_claim_3 rfl 0 rfl ?_
  refine nw_iload_n C dL_claim_4 rfl 1 rfl ?_
  refine nw_iload_n C dL_claim_5 rfl 2 rfl ?_
  refine nw_iload_n C dL_claim_6 rfl 3 rfl ?_
  refine nw_iload C dL_claim_7 4 rfl ?_
  refine nw_callVX (q0 := 0) (As := [.int p0, .int p1, .int p2, .int p3]) (rest := [.int 0, .ref ao]) C (c_FC_claim hl h hφ2) tw_1416 kv_X11_claim cl_FC rfl ⟨Nat.le_of_ble_eq_true rfl, Nat.le_of_ble_eq_true rfl⟩ ⟨by show _ ≤ BB - ph σ.2.2 + 1; omega, by show _ ≤ 2 * (BB - ph σ.2.2) + 6; omega⟩ rfl dL_claim_9 rfl (Nat.le_of_ble_eq_true rfl) ?_ ?_
  · rintro w ws1 ⟨hc0, rfl, ⟨ta1, rfl⟩, h3, h4⟩
    have hc0 : c0 = 0 := hc0
    subst hc0
    refine nw_i2l C dL_claim_12 ?_
    refine nw_last C (60 + R1.length) oW_at dL_claim_13 (by unfold vp_in; decide) oW_set ?_
    refine nw_goto (tgt := 25) C dL_claim_14 (by decide) ?_
    refine nw_iconst (v := 0) C dL_claim_25 (by decide) ?_
    exact nw_iret C hr dL_claim_26 (Nat.le_of_eq (Nat.zero_add _)) (Nat.le_of_eq (Nat.zero_add _)) ⟨rfl, ⟨ta1, rfl⟩, h3, h4⟩
  · rintro E ws1 H1 locs1 ls q ce ⟨hc0, hE, ⟨ta1, rfl⟩, h3, h4⟩ hP hD hS hl2 hce hcv hcl
    have hc0 : ¬ c0 = 0 := hc0
    have hE : E = exN c0 := hE
    rcases hc with hc | hc | hc
    · exact absurd hc hc0
    · subst hc
      have hE : E = "java/lang/IndexOutOfBoundsException" := hE
      subst hE
      refine nw_catch (name := "java/lang/IndexOutOfBoundsException") C htab [] ⟨0, 14, 17, 28⟩ [⟨0, 14, 21, 13⟩] rfl (fun z hz => nomatch hz) (by decide) (by decide) tw_985 tw_996 hP hD hS hl2 hce hcv hcl ?_
      refine nw_astore (lv' := [(6, .ref q), (0, .ref (ad 0)), (1, .int p0), (2, .int p1), (3, .int p2), (4, .int p3), (5, .ref ao)]) C dL_claim_17 (by decide) rfl ?_
      refine nw_iconst (v := 1) C dL_claim_19 (by decide) ?_
      exact nw_iret C hr dL_claim_20 (Nat.le_of_eq (Nat.zero_add _)) (Nat.le_of_eq (Nat.zero_add _)) ⟨rfl, ⟨ta1, rfl⟩, h3, h4⟩
    · subst hc
      have hE : E = "java/lang/IllegalArgumentException" := hE
      subst hE
      refine nw_catch (name := "java/lang/IllegalArgumentException") C htab [⟨0, 14, 17, 28⟩] ⟨0, 14, 21, 13⟩ [] rfl (fun z hz => by rcases List.mem_singleton.mp hz with rfl; exact Or.inr ⟨by decide, "java/lang/IndexOutOfBoundsException", tw_985, nc1⟩) (by decide) (by decide) tw_669 tw_683 hP hD hS hl2 hce hcv hcl ?_
      refine nw_astore (lv' := [(6, .ref q), (0, .ref (ad 0)), (1, .int p0), (2, .int p1), (3, .int p2), (4, .int p3), (5, .ref ao)]) C dL_claim_21 (by decide) rfl ?_
      refine nw_iconst (v := 2) C dL_claim_23 (by decide) ?_
      exact nw_iret C hr dL_claim_24 (Nat.le_of_eq (Nat.zero_add _)) (Nat.le_of_eq (Nat.zero_add _)) ⟨rfl, ⟨ta1, rfl⟩, h3, h4⟩
theorem dL_use_0 : decode cL_use 0 = .ok (.aload 4, 2) := by decide +kernel
theorem dL_use_2 : decode cL_use 2 = .ok (.iconst 0, 1) := by decide +kernel
theorem dL_use_3 : decode cL_use 3 = .ok (.aload_n 0, 1) := by decide +kernel
theorem dL_use_4 : decode cL_use 4 = .ok (.iload_n 1, 1) := by decide +kernel
theorem dL_use_5 : decode cL_use 5 = .ok (.iload_n 2, 1) := by decide +kernel
theorem dL_use_6 : decode cL_use 6 = .ok (.iload_n 3, 1) := by decide +kernel
theorem dL_use_7 : decode cL_use 7 = .ok (.invokevirtual 94, 3) := by decide +kernel
theorem dL_use_10 : decode cL_use 10 = .ok (.i2l, 1) := by decide +kernel
theorem dL_use_11 : decode cL_use 11 = .ok (.lastore, 1) := by decide +kernel
theorem dL_use_12 : decode cL_use 12 = .ok (.goto 11, 3) := by decide +kernel
theorem dL_use_15 : decode cL_use 15 = .ok (.astore 5, 2) := by decide +kernel
theorem dL_use_17 : decode cL_use 17 = .ok (.iconst 1, 1) := by decide +kernel
theorem dL_use_18 : decode cL_use 18 = .ok (.ireturn, 1) := by decide +kernel
theorem dL_use_19 : decode cL_use 19 = .ok (.astore 5, 2) := by decide +kernel
theorem dL_use_21 : decode cL_use 21 = .ok (.iconst 2, 1) := by decide +kernel
theorem dL_use_22 : decode cL_use 22 = .ok (.ireturn, 1) := by decide +kernel
theorem dL_use_23 : decode cL_use 23 = .ok (.iconst 0, 1) := by decide +kernel
theorem dL_use_24 : decode cL_use 24 = .ok (.ireturn, 1) := by decide +kernel
theorem kh_L_use : Cond.codeWith yL_use cL_use 6 (some .int) [(0, 12, 15, 28), (0, 12, 19, 13)] ∈ TT ∧ (yL_use.cls ≠ "java/lang/invoke/MethodHandle" ∧ yL_use.cls ≠ "java/lang/invoke/VarHandle") ∧ (parseMethodDescriptor yL_use.desc).map (fun d => d.parameters.length) = some 5 := ⟨tw_1428, by decide +kernel, by decide +kernel⟩
set_option maxHeartbeats 4000000 in
set_option maxRecDepth 100000 in
theorem z_use {l : Launch} {g : EG} {ad ta : Nat → Nat} {R1 : va_W} {ao : Nat} {f : Nat → Int64} {σ σ1 : CS} {c0 v0 : Int32} {p0 p1 p2 : Int32} (hl : l.stackTraces = false) (h : f_FC_use p0 p1 p2 σ = some ((c0, v0), σ1)) (hc : c0 = 0 ∨ c0 = 3 ∨ c0 = 1) (hφ2 : ph σ.2.2 ≤ BB) :
    Ct l g yL_use (.codeWith yL_use cL_use 6 (some .int) [(0, 12, 15, 28), (0, 12, 19, 13)]) 14 327 (BB - ph σ.2.2 + 1) (2 * (BB - ph σ.2.2) + 6) (cw g ad ta σ ++ (R1 ++ [oWl g ao f])) [.ref (ad 0), .int p0, .int p1, .int p2, .ref ao] (QZ g ad R1 ao (ph σ.2.2) (if c0 = 0 then 0 else if c0 = 3 then 1 else 2) σ1 (if c0 = 0 then vp_updL f 0 v0.toInt64 else f)) (ph σ1.2.2 - ph σ.2.2 + 1) (2 * (ph σ1.2.2 - ph σ.2.2) + 6) := by
  refine Ct.ofH rfl (by decide) (Nat.le_of_ble_eq_true rfl) ?_
  intro p e s m args below meth c A C hr htab
  refine nw_lv (lv' := [(0, .ref (ad 0)), (1, .int p0), (2, .int p1), (3, .int p2), (4, .ref ao)]) [0, 1, 2, 3, 4] rfl ?_
  refine nw_aload C dL_use_0 4 rfl ?_
  refine nw_iconst (v := 0) C dL_use_2 (by decide) ?_
  refine nw_aload_n C dL_use_3 rfl 0 rfl ?_
  refine nw_iload_n C dL_use_4 rfl 1 rfl ?_
  refine nw_iload_n C dL_use_5 rfl 2 rfl ?_
  refine nw_iload_n C dL_use_6 rfl 3 rfl ?_
  refine nw_callVX (q0 := 0) (As := [.int p0, .int p1, .int p2]) (rest := [.int 0, .ref ao]) C (c_FC_use hl h hφ2) tw_1429 kv_X11_use cl_FC rfl ⟨Nat.le_of_ble_eq_true rfl, Nat.le_of_ble_eq_true rfl⟩ ⟨by show _ ≤ BB - ph σ.2.2 + 1; omega, by show _ ≤ 2 * (BB - ph σ.2.2) + 6; omega⟩ rfl dL_use_7 rfl (Nat.le_of_ble_eq_true rfl) ?_ ?_
  · rintro w ws1 ⟨hc0, rfl, ⟨ta1, rfl⟩, h3, h4⟩
    have hc0 : c0 = 0 := hc0
    subst hc0
    refine nw_i2l C dL_use_10 ?_
    refine nw_last C (60 + R1.length) oW_at dL_use_11 (by unfold vp_in; decide) oW_set ?_
    refine nw_goto (tgt := 23) C dL_use_12 (by decide) ?_
    refine nw_iconst (v := 0) C dL_use_23 (by decide) ?_
    exact nw_iret C hr dL_use_24 (Nat.le_of_eq (Nat.zero_add _)) (Nat.le_of_eq (Nat.zero_add _)) ⟨rfl, ⟨ta1, rfl⟩, h3, h4⟩
  · rintro E ws1 H1 locs1 ls q ce ⟨hc0, hE, ⟨ta1, rfl⟩, h3, h4⟩ hP hD hS hl2 hce hcv hcl
    have hc0 : ¬ c0 = 0 := hc0
    have hE : E = exN c0 := hE
    rcases hc with hc | hc | hc
    · exact absurd hc hc0
    · subst hc
      have hE : E = "java/lang/IndexOutOfBoundsException" := hE
      subst hE
      refine nw_catch (name := "java/lang/IndexOutOfBoundsException") C htab [] ⟨0, 12, 15, 28⟩ [⟨0, 12, 19, 13⟩] rfl (fun z hz => nomatch hz) (by decide) (by decide) tw_985 tw_996 hP hD hS hl2 hce hcv hcl ?_
      refine nw_astore (lv' := [(5, .ref q), (0, .ref (ad 0)), (1, .int p0), (2, .int p1), (3, .int p2), (4, .ref ao)]) C dL_use_15 (by decide) rfl ?_
      refine nw_iconst (v := 1) C dL_use_17 (by decide) ?_
      exact nw_iret C hr dL_use_18 (Nat.le_of_eq (Nat.zero_add _)) (Nat.le_of_eq (Nat.zero_add _)) ⟨rfl, ⟨ta1, rfl⟩, h3, h4⟩
    · subst hc
      have hE : E = "java/lang/IllegalArgumentException" := hE
      subst hE
      refine nw_catch (name := "java/lang/IllegalArgumentException") C htab [⟨0, 12, 15, 28⟩] ⟨0, 12, 19, 13⟩ [] rfl (fun z hz => by rcases List.mem_singleton.mp hz with rfl; exact Or.inr ⟨by decide, "java/lang/IndexOutOfBoundsException", tw_985, nc1⟩) (by decide) (by decide) tw_669 tw_683 hP hD hS hl2 hce hcv hcl ?_
      refine nw_astore (lv' := [(5, .ref q), (0, .ref (ad 0)), (1, .int p0), (2, .int p1), (3, .int p2), (4, .ref ao)]) C dL_use_19 (by decide) rfl ?_
      refine nw_iconst (v := 2) C dL_use_21 (by decide) ?_
      exact nw_iret C hr dL_use_22 (Nat.le_of_eq (Nat.zero_add _)) (Nat.le_of_eq (Nat.zero_add _)) ⟨rfl, ⟨ta1, rfl⟩, h3, h4⟩
theorem dL_sure_0 : decode cL_sure 0 = .ok (.aload_n 3, 1) := by decide +kernel
theorem dL_sure_1 : decode cL_sure 1 = .ok (.iconst 0, 1) := by decide +kernel
theorem dL_sure_2 : decode cL_sure 2 = .ok (.aload_n 0, 1) := by decide +kernel
theorem dL_sure_3 : decode cL_sure 3 = .ok (.iload_n 1, 1) := by decide +kernel
theorem dL_sure_4 : decode cL_sure 4 = .ok (.iload_n 2, 1) := by decide +kernel
theorem dL_sure_5 : decode cL_sure 5 = .ok (.invokevirtual 97, 3) := by decide +kernel
theorem dL_sure_8 : decode cL_sure 8 = .ok (.i2l, 1) := by decide +kernel
theorem dL_sure_9 : decode cL_sure 9 = .ok (.lastore, 1) := by decide +kernel
theorem dL_sure_10 : decode cL_sure 10 = .ok (.goto 11, 3) := by decide +kernel
theorem dL_sure_13 : decode cL_sure 13 = .ok (.astore 4, 2) := by decide +kernel
theorem dL_sure_15 : decode cL_sure 15 = .ok (.iconst 1, 1) := by decide +kernel
theorem dL_sure_16 : decode cL_sure 16 = .ok (.ireturn, 1) := by decide +kernel
theorem dL_sure_17 : decode cL_sure 17 = .ok (.astore 4, 2) := by decide +kernel
theorem dL_sure_19 : decode cL_sure 19 = .ok (.iconst 2, 1) := by decide +kernel
theorem dL_sure_20 : decode cL_sure 20 = .ok (.ireturn, 1) := by decide +kernel
theorem dL_sure_21 : decode cL_sure 21 = .ok (.iconst 0, 1) := by decide +kernel
theorem dL_sure_22 : decode cL_sure 22 = .ok (.ireturn, 1) := by decide +kernel
theorem kh_L_sure : Cond.codeWith yL_sure cL_sure 5 (some .int) [(0, 10, 13, 28), (0, 10, 17, 13)] ∈ TT ∧ (yL_sure.cls ≠ "java/lang/invoke/MethodHandle" ∧ yL_sure.cls ≠ "java/lang/invoke/VarHandle") ∧ (parseMethodDescriptor yL_sure.desc).map (fun d => d.parameters.length) = some 4 := ⟨tw_1440, by decide +kernel, by decide +kernel⟩
set_option maxHeartbeats 4000000 in
set_option maxRecDepth 100000 in
theorem z_sure {l : Launch} {g : EG} {ad ta : Nat → Nat} {R1 : va_W} {ao : Nat} {f : Nat → Int64} {σ σ1 : CS} {c0 v0 : Int32} {p0 p1 : Int32} (hl : l.stackTraces = false) (h : f_FC_sure p0 p1 σ = some ((c0, v0), σ1)) (hc : c0 = 0 ∨ c0 = 3 ∨ c0 = 1) (hφ2 : ph σ.2.2 ≤ BB) :
    Ct l g yL_sure (.codeWith yL_sure cL_sure 5 (some .int) [(0, 10, 13, 28), (0, 10, 17, 13)]) 14 326 (BB - ph σ.2.2 + 1) (2 * (BB - ph σ.2.2) + 6) (cw g ad ta σ ++ (R1 ++ [oWl g ao f])) [.ref (ad 0), .int p0, .int p1, .ref ao] (QZ g ad R1 ao (ph σ.2.2) (if c0 = 0 then 0 else if c0 = 3 then 1 else 2) σ1 (if c0 = 0 then vp_updL f 0 v0.toInt64 else f)) (ph σ1.2.2 - ph σ.2.2 + 1) (2 * (ph σ1.2.2 - ph σ.2.2) + 6) := by
  refine Ct.ofH rfl (by decide) (Nat.le_of_ble_eq_true rfl) ?_
  intro p e s m args below meth c A C hr htab
  refine nw_lv (lv' := [(0, .ref (ad 0)), (1, .int p0), (2, .int p1), (3, .ref ao)]) [0, 1, 2, 3] rfl ?_
  refine nw_aload_n C dL_sure_0 rfl 3 rfl ?_
  refine nw_iconst (v := 0) C dL_sure_1 (by decide) ?_
  refine nw_aload_n C dL_sure_2 rfl 0 rfl ?_
  refine nw_iload_n C dL_sure_3 rfl 1 rfl ?_
  refine nw_iload_n C dL_sure_4 rfl 2 rfl ?_
  refine nw_callVX (q0 := 0) (As := [.int p0, .int p1]) (rest := [.int 0, .ref ao]) C (c_FC_sure hl h hφ2) tw_1441 kv_X11_sure cl_FC rfl ⟨Nat.le_of_ble_eq_true rfl, Nat.le_of_ble_eq_true rfl⟩ ⟨by show _ ≤ BB - ph σ.2.2 + 1; omega, by show _ ≤ 2 * (BB - ph σ.2.2) + 6; omega⟩ rfl dL_sure_5 rfl (Nat.le_of_ble_eq_true rfl) ?_ ?_
  · rintro w ws1 ⟨hc0, rfl, ⟨ta1, rfl⟩, h3, h4⟩
    have hc0 : c0 = 0 := hc0
    subst hc0
    refine nw_i2l C dL_sure_8 ?_
    refine nw_last C (60 + R1.length) oW_at dL_sure_9 (by unfold vp_in; decide) oW_set ?_
    refine nw_goto (tgt := 21) C dL_sure_10 (by decide) ?_
    refine nw_iconst (v := 0) C dL_sure_21 (by decide) ?_
    exact nw_iret C hr dL_sure_22 (Nat.le_of_eq (Nat.zero_add _)) (Nat.le_of_eq (Nat.zero_add _)) ⟨rfl, ⟨ta1, rfl⟩, h3, h4⟩
  · rintro E ws1 H1 locs1 ls q ce ⟨hc0, hE, ⟨ta1, rfl⟩, h3, h4⟩ hP hD hS hl2 hce hcv hcl
    have hc0 : ¬ c0 = 0 := hc0
    have hE : E = exN c0 := hE
    rcases hc with hc | hc | hc
    · exact absurd hc hc0
    · subst hc
      have hE : E = "java/lang/IndexOutOfBoundsException" := hE
      subst hE
      refine nw_catch (name := "java/lang/IndexOutOfBoundsException") C htab [] ⟨0, 10, 13, 28⟩ [⟨0, 10, 17, 13⟩] rfl (fun z hz => nomatch hz) (by decide) (by decide) tw_985 tw_996 hP hD hS hl2 hce hcv hcl ?_
      refine nw_astore (lv' := [(4, .ref q), (0, .ref (ad 0)), (1, .int p0), (2, .int p1), (3, .ref ao)]) C dL_sure_13 (by decide) rfl ?_
      refine nw_iconst (v := 1) C dL_sure_15 (by decide) ?_
      exact nw_iret C hr dL_sure_16 (Nat.le_of_eq (Nat.zero_add _)) (Nat.le_of_eq (Nat.zero_add _)) ⟨rfl, ⟨ta1, rfl⟩, h3, h4⟩
    · subst hc
      have hE : E = "java/lang/IllegalArgumentException" := hE
      subst hE
      refine nw_catch (name := "java/lang/IllegalArgumentException") C htab [⟨0, 10, 13, 28⟩] ⟨0, 10, 17, 13⟩ [] rfl (fun z hz => by rcases List.mem_singleton.mp hz with rfl; exact Or.inr ⟨by decide, "java/lang/IndexOutOfBoundsException", tw_985, nc1⟩) (by decide) (by decide) tw_669 tw_683 hP hD hS hl2 hce hcv hcl ?_
      refine nw_astore (lv' := [(4, .ref q), (0, .ref (ad 0)), (1, .int p0), (2, .int p1), (3, .ref ao)]) C dL_sure_17 (by decide) rfl ?_
      refine nw_iconst (v := 2) C dL_sure_19 (by decide) ?_
      exact nw_iret C hr dL_sure_20 (Nat.le_of_eq (Nat.zero_add _)) (Nat.le_of_eq (Nat.zero_add _)) ⟨rfl, ⟨ta1, rfl⟩, h3, h4⟩
theorem dL_enter_0 : decode cL_enter 0 = .ok (.aload 4, 2) := by decide +kernel
theorem dL_enter_2 : decode cL_enter 2 = .ok (.iconst 0, 1) := by decide +kernel
theorem dL_enter_3 : decode cL_enter 3 = .ok (.aload_n 0, 1) := by decide +kernel
theorem dL_enter_4 : decode cL_enter 4 = .ok (.iload_n 1, 1) := by decide +kernel
theorem dL_enter_5 : decode cL_enter 5 = .ok (.iload_n 2, 1) := by decide +kernel
theorem dL_enter_6 : decode cL_enter 6 = .ok (.iload_n 3, 1) := by decide +kernel
theorem dL_enter_7 : decode cL_enter 7 = .ok (.invokevirtual 100, 3) := by decide +kernel
theorem dL_enter_10 : decode cL_enter 10 = .ok (.i2l, 1) := by decide +kernel
theorem dL_enter_11 : decode cL_enter 11 = .ok (.lastore, 1) := by decide +kernel
theorem dL_enter_12 : decode cL_enter 12 = .ok (.goto 11, 3) := by decide +kernel
theorem dL_enter_15 : decode cL_enter 15 = .ok (.astore 5, 2) := by decide +kernel
theorem dL_enter_17 : decode cL_enter 17 = .ok (.iconst 1, 1) := by decide +kernel
theorem dL_enter_18 : decode cL_enter 18 = .ok (.ireturn, 1) := by decide +kernel
theorem dL_enter_19 : decode cL_enter 19 = .ok (.astore 5, 2) := by decide +kernel
theorem dL_enter_21 : decode cL_enter 21 = .ok (.iconst 2, 1) := by decide +kernel
theorem dL_enter_22 : decode cL_enter 22 = .ok (.ireturn, 1) := by decide +kernel
theorem dL_enter_23 : decode cL_enter 23 = .ok (.iconst 0, 1) := by decide +kernel
theorem dL_enter_24 : decode cL_enter 24 = .ok (.ireturn, 1) := by decide +kernel
theorem kh_L_enter : Cond.codeWith yL_enter cL_enter 6 (some .int) [(0, 12, 15, 28), (0, 12, 19, 13)] ∈ TT ∧ (yL_enter.cls ≠ "java/lang/invoke/MethodHandle" ∧ yL_enter.cls ≠ "java/lang/invoke/VarHandle") ∧ (parseMethodDescriptor yL_enter.desc).map (fun d => d.parameters.length) = some 5 := ⟨tw_1448, by decide +kernel, by decide +kernel⟩
set_option maxHeartbeats 4000000 in
set_option maxRecDepth 100000 in
theorem z_enter {l : Launch} {g : EG} {ad ta : Nat → Nat} {R1 : va_W} {ao : Nat} {f : Nat → Int64} {σ σ1 : CS} {c0 v0 : Int32} {p0 p1 p2 : Int32} (hl : l.stackTraces = false) (h : f_FC_enter p0 p1 p2 σ = some ((c0, v0), σ1)) (hc : c0 = 0 ∨ c0 = 3 ∨ c0 = 1) (hφ2 : ph σ.2.2 ≤ BB) :
    Ct l g yL_enter (.codeWith yL_enter cL_enter 6 (some .int) [(0, 12, 15, 28), (0, 12, 19, 13)]) 14 327 (BB - ph σ.2.2 + 1) (2 * (BB - ph σ.2.2) + 6) (cw g ad ta σ ++ (R1 ++ [oWl g ao f])) [.ref (ad 0), .int p0, .int p1, .int p2, .ref ao] (QZ g ad R1 ao (ph σ.2.2) (if c0 = 0 then 0 else if c0 = 3 then 1 else 2) σ1 (if c0 = 0 then vp_updL f 0 v0.toInt64 else f)) (ph σ1.2.2 - ph σ.2.2 + 1) (2 * (ph σ1.2.2 - ph σ.2.2) + 6) := by
  refine Ct.ofH rfl (by decide) (Nat.le_of_ble_eq_true rfl) ?_
  intro p e s m args below meth c A C hr htab
  refine nw_lv (lv' := [(0, .ref (ad 0)), (1, .int p0), (2, .int p1), (3, .int p2), (4, .ref ao)]) [0, 1, 2, 3, 4] rfl ?_
  refine nw_aload C dL_enter_0 4 rfl ?_
  refine nw_iconst (v := 0) C dL_enter_2 (by decide) ?_
  refine nw_aload_n C dL_enter_3 rfl 0 rfl ?_
  refine nw_iload_n C dL_enter_4 rfl 1 rfl ?_
  refine nw_iload_n C dL_enter_5 rfl 2 rfl ?_
  refine nw_iload_n C dL_enter_6 rfl 3 rfl ?_
  refine nw_callVX (q0 := 0) (As := [.int p0, .int p1, .int p2]) (rest := [.int 0, .ref ao]) C (c_FC_enter hl h hφ2) tw_1449 kv_X11_enter cl_FC rfl ⟨Nat.le_of_ble_eq_true rfl, Nat.le_of_ble_eq_true rfl⟩ ⟨by show _ ≤ BB - ph σ.2.2 + 1; omega, by show _ ≤ 2 * (BB - ph σ.2.2) + 6; omega⟩ rfl dL_enter_7 rfl (Nat.le_of_ble_eq_true rfl) ?_ ?_
  · rintro w ws1 ⟨hc0, rfl, ⟨ta1, rfl⟩, h3, h4⟩
    have hc0 : c0 = 0 := hc0
    subst hc0
    refine nw_i2l C dL_enter_10 ?_
    refine nw_last C (60 + R1.length) oW_at dL_enter_11 (by unfold vp_in; decide) oW_set ?_
    refine nw_goto (tgt := 23) C dL_enter_12 (by decide) ?_
    refine nw_iconst (v := 0) C dL_enter_23 (by decide) ?_
    exact nw_iret C hr dL_enter_24 (Nat.le_of_eq (Nat.zero_add _)) (Nat.le_of_eq (Nat.zero_add _)) ⟨rfl, ⟨ta1, rfl⟩, h3, h4⟩
  · rintro E ws1 H1 locs1 ls q ce ⟨hc0, hE, ⟨ta1, rfl⟩, h3, h4⟩ hP hD hS hl2 hce hcv hcl
    have hc0 : ¬ c0 = 0 := hc0
    have hE : E = exN c0 := hE
    rcases hc with hc | hc | hc
    · exact absurd hc hc0
    · subst hc
      have hE : E = "java/lang/IndexOutOfBoundsException" := hE
      subst hE
      refine nw_catch (name := "java/lang/IndexOutOfBoundsException") C htab [] ⟨0, 12, 15, 28⟩ [⟨0, 12, 19, 13⟩] rfl (fun z hz => nomatch hz) (by decide) (by decide) tw_985 tw_996 hP hD hS hl2 hce hcv hcl ?_
      refine nw_astore (lv' := [(5, .ref q), (0, .ref (ad 0)), (1, .int p0), (2, .int p1), (3, .int p2), (4, .ref ao)]) C dL_enter_15 (by decide) rfl ?_
      refine nw_iconst (v := 1) C dL_enter_17 (by decide) ?_
      exact nw_iret C hr dL_enter_18 (Nat.le_of_eq (Nat.zero_add _)) (Nat.le_of_eq (Nat.zero_add _)) ⟨rfl, ⟨ta1, rfl⟩, h3, h4⟩
    · subst hc
      have hE : E = "java/lang/IllegalArgumentException" := hE
      subst hE
      refine nw_catch (name := "java/lang/IllegalArgumentException") C htab [⟨0, 12, 15, 28⟩] ⟨0, 12, 19, 13⟩ [] rfl (fun z hz => by rcases List.mem_singleton.mp hz with rfl; exact Or.inr ⟨by decide, "java/lang/IndexOutOfBoundsException", tw_985, nc1⟩) (by decide) (by decide) tw_669 tw_683 hP hD hS hl2 hce hcv hcl ?_
      refine nw_astore (lv' := [(5, .ref q), (0, .ref (ad 0)), (1, .int p0), (2, .int p1), (3, .int p2), (4, .ref ao)]) C dL_enter_19 (by decide) rfl ?_
      refine nw_iconst (v := 2) C dL_enter_21 (by decide) ?_
      exact nw_iret C hr dL_enter_22 (Nat.le_of_eq (Nat.zero_add _)) (Nat.le_of_eq (Nat.zero_add _)) ⟨rfl, ⟨ta1, rfl⟩, h3, h4⟩
theorem dL_joined_0 : decode cL_joined 0 = .ok (.aload_n 3, 1) := by decide +kernel
theorem dL_joined_1 : decode cL_joined 1 = .ok (.iconst 0, 1) := by decide +kernel
theorem dL_joined_2 : decode cL_joined 2 = .ok (.aload_n 0, 1) := by decide +kernel
theorem dL_joined_3 : decode cL_joined 3 = .ok (.iload_n 1, 1) := by decide +kernel
theorem dL_joined_4 : decode cL_joined 4 = .ok (.iload_n 2, 1) := by decide +kernel
theorem dL_joined_5 : decode cL_joined 5 = .ok (.invokevirtual 103, 3) := by decide +kernel
theorem dL_joined_8 : decode cL_joined 8 = .ok (.i2l, 1) := by decide +kernel
theorem dL_joined_9 : decode cL_joined 9 = .ok (.lastore, 1) := by decide +kernel
theorem dL_joined_10 : decode cL_joined 10 = .ok (.goto 7, 3) := by decide +kernel
theorem dL_joined_13 : decode cL_joined 13 = .ok (.astore 4, 2) := by decide +kernel
theorem dL_joined_15 : decode cL_joined 15 = .ok (.iconst 1, 1) := by decide +kernel
theorem dL_joined_16 : decode cL_joined 16 = .ok (.ireturn, 1) := by decide +kernel
theorem dL_joined_17 : decode cL_joined 17 = .ok (.iconst 0, 1) := by decide +kernel
theorem dL_joined_18 : decode cL_joined 18 = .ok (.ireturn, 1) := by decide +kernel
theorem kh_L_joined : Cond.codeWith yL_joined cL_joined 5 (some .int) [(0, 10, 13, 13)] ∈ TT ∧ (yL_joined.cls ≠ "java/lang/invoke/MethodHandle" ∧ yL_joined.cls ≠ "java/lang/invoke/VarHandle") ∧ (parseMethodDescriptor yL_joined.desc).map (fun d => d.parameters.length) = some 4 := ⟨tw_1461, by decide +kernel, by decide +kernel⟩
set_option maxHeartbeats 4000000 in
set_option maxRecDepth 100000 in
theorem z_joined {l : Launch} {g : EG} {ad ta : Nat → Nat} {R1 : va_W} {ao : Nat} {f : Nat → Int64} {σ σ1 : CS} {c0 v0 : Int32} {p0 p1 : Int32} (hl : l.stackTraces = false) (h : f_FC_joined p0 p1 σ = some ((c0, v0), σ1)) (hc : c0 = 0 ∨ c0 = 1) (hφ2 : ph σ.2.2 ≤ BB) :
    Ct l g yL_joined (.codeWith yL_joined cL_joined 5 (some .int) [(0, 10, 13, 13)]) 14 326 (BB - ph σ.2.2 + 1) (2 * (BB - ph σ.2.2) + 6) (cw g ad ta σ ++ (R1 ++ [oWl g ao f])) [.ref (ad 0), .int p0, .int p1, .ref ao] (QZ g ad R1 ao (ph σ.2.2) (if c0 = 0 then 0 else 1) σ1 (if c0 = 0 then vp_updL f 0 v0.toInt64 else f)) (ph σ1.2.2 - ph σ.2.2 + 1) (2 * (ph σ1.2.2 - ph σ.2.2) + 6) := by
  refine Ct.ofH rfl (by decide) (Nat.le_of_ble_eq_true rfl) ?_
  intro p e s m args below meth c A C hr htab
  refine nw_lv (lv' := [(0, .ref (ad 0)), (1, .int p0), (2, .int p1), (3, .ref ao)]) [0, 1, 2, 3] rfl ?_
  refine nw_aload_n C dL_joined_0 rfl 3 rfl ?_
  refine nw_iconst (v := 0) C dL_joined_1 (by decide) ?_
  refine nw_aload_n C dL_joined_2 rfl 0 rfl ?_
  refine nw_iload_n C dL_joined_3 rfl 1 rfl ?_
  refine nw_iload_n C dL_joined_4 rfl 2 rfl ?_
  refine nw_callVX (q0 := 0) (As := [.int p0, .int p1]) (rest := [.int 0, .ref ao]) C (c_FC_joined hl h hφ2) tw_1462 kv_X11_joined cl_FC rfl ⟨Nat.le_of_ble_eq_true rfl, Nat.le_of_ble_eq_true rfl⟩ ⟨by show _ ≤ BB - ph σ.2.2 + 1; omega, by show _ ≤ 2 * (BB - ph σ.2.2) + 6; omega⟩ rfl dL_joined_5 rfl (Nat.le_of_ble_eq_true rfl) ?_ ?_
  · rintro w ws1 ⟨hc0, rfl, ⟨ta1, rfl⟩, h3, h4⟩
    have hc0 : c0 = 0 := hc0
    subst hc0
    refine nw_i2l C dL_joined_8 ?_
    refine nw_last C (60 + R1.length) oW_at dL_joined_9 (by unfold vp_in; decide) oW_set ?_
    refine nw_goto (tgt := 17) C dL_joined_10 (by decide) ?_
    refine nw_iconst (v := 0) C dL_joined_17 (by decide) ?_
    exact nw_iret C hr dL_joined_18 (Nat.le_of_eq (Nat.zero_add _)) (Nat.le_of_eq (Nat.zero_add _)) ⟨rfl, ⟨ta1, rfl⟩, h3, h4⟩
  · rintro E ws1 H1 locs1 ls q ce ⟨hc0, hE, ⟨ta1, rfl⟩, h3, h4⟩ hP hD hS hl2 hce hcv hcl
    have hc0 : ¬ c0 = 0 := hc0
    have hE : E = exN c0 := hE
    rcases hc with hc | hc
    · exact absurd hc hc0
    · subst hc
      have hE : E = "java/lang/IllegalArgumentException" := hE
      subst hE
      refine nw_catch (name := "java/lang/IllegalArgumentException") C htab [] ⟨0, 10, 13, 13⟩ [] rfl (fun z hz => nomatch hz) (by decide) (by decide) tw_669 tw_683 hP hD hS hl2 hce hcv hcl ?_
      refine nw_astore (lv' := [(4, .ref q), (0, .ref (ad 0)), (1, .int p0), (2, .int p1), (3, .ref ao)]) C dL_joined_13 (by decide) rfl ?_
      refine nw_iconst (v := 1) C dL_joined_15 (by decide) ?_
      exact nw_iret C hr dL_joined_16 (Nat.le_of_eq (Nat.zero_add _)) (Nat.le_of_eq (Nat.zero_add _)) ⟨rfl, ⟨ta1, rfl⟩, h3, h4⟩
theorem dL_lodge_0 : decode cL_lodge 0 = .ok (.aload 5, 2) := by decide +kernel
theorem dL_lodge_2 : decode cL_lodge 2 = .ok (.iconst 0, 1) := by decide +kernel
theorem dL_lodge_3 : decode cL_lodge 3 = .ok (.aload_n 0, 1) := by decide +kernel
theorem dL_lodge_4 : decode cL_lodge 4 = .ok (.iload_n 1, 1) := by decide +kernel
theorem dL_lodge_5 : decode cL_lodge 5 = .ok (.iload_n 2, 1) := by decide +kernel
theorem dL_lodge_6 : decode cL_lodge 6 = .ok (.iload_n 3, 1) := by decide +kernel
theorem dL_lodge_7 : decode cL_lodge 7 = .ok (.iload 4, 2) := by decide +kernel
theorem dL_lodge_9 : decode cL_lodge 9 = .ok (.invokevirtual 106, 3) := by decide +kernel
theorem dL_lodge_12 : decode cL_lodge 12 = .ok (.i2l, 1) := by decide +kernel
theorem dL_lodge_13 : decode cL_lodge 13 = .ok (.lastore, 1) := by decide +kernel
theorem dL_lodge_14 : decode cL_lodge 14 = .ok (.goto 11, 3) := by decide +kernel
theorem dL_lodge_17 : decode cL_lodge 17 = .ok (.astore 6, 2) := by decide +kernel
theorem dL_lodge_19 : decode cL_lodge 19 = .ok (.iconst 1, 1) := by decide +kernel
theorem dL_lodge_20 : decode cL_lodge 20 = .ok (.ireturn, 1) := by decide +kernel
theorem dL_lodge_21 : decode cL_lodge 21 = .ok (.astore 6, 2) := by decide +kernel
theorem dL_lodge_23 : decode cL_lodge 23 = .ok (.iconst 2, 1) := by decide +kernel
theorem dL_lodge_24 : decode cL_lodge 24 = .ok (.ireturn, 1) := by decide +kernel
theorem dL_lodge_25 : decode cL_lodge 25 = .ok (.iconst 0, 1) := by decide +kernel
theorem dL_lodge_26 : decode cL_lodge 26 = .ok (.ireturn, 1) := by decide +kernel
theorem kh_L_lodge : Cond.codeWith yL_lodge cL_lodge 7 (some .int) [(0, 14, 17, 28), (0, 14, 21, 13)] ∈ TT ∧ (yL_lodge.cls ≠ "java/lang/invoke/MethodHandle" ∧ yL_lodge.cls ≠ "java/lang/invoke/VarHandle") ∧ (parseMethodDescriptor yL_lodge.desc).map (fun d => d.parameters.length) = some 6 := ⟨tw_1482, by decide +kernel, by decide +kernel⟩
set_option maxHeartbeats 4000000 in
set_option maxRecDepth 100000 in
theorem z_lodge {l : Launch} {g : EG} {ad ta : Nat → Nat} {R1 : va_W} {ao : Nat} {f : Nat → Int64} {σ σ1 : CS} {c0 v0 : Int32} {p0 p1 p2 p3 : Int32} (hl : l.stackTraces = false) (h : f_FC_lodge p0 p1 p2 p3 σ = some ((c0, v0), σ1)) (hc : c0 = 0 ∨ c0 = 3 ∨ c0 = 1) (hφ2 : ph σ.2.2 ≤ BB) :
    Ct l g yL_lodge (.codeWith yL_lodge cL_lodge 7 (some .int) [(0, 14, 17, 28), (0, 14, 21, 13)]) 14 328 (BB - ph σ.2.2 + 1) (2 * (BB - ph σ.2.2) + 6) (cw g ad ta σ ++ (R1 ++ [oWl g ao f])) [.ref (ad 0), .int p0, .int p1, .int p2, .int p3, .ref ao] (QZ g ad R1 ao (ph σ.2.2) (if c0 = 0 then 0 else if c0 = 3 then 1 else 2) σ1 (if c0 = 0 then vp_updL f 0 v0.toInt64 else f)) (ph σ1.2.2 - ph σ.2.2 + 1) (2 * (ph σ1.2.2 - ph σ.2.2) + 6) := by
  refine Ct.ofH rfl (by decide) (Nat.le_of_ble_eq_true rfl) ?_
  intro p e s m args below meth c A C hr htab
  refine nw_lv (lv' := [(0, .ref (ad 0)), (1, .int p0), (2, .int p1), (3, .int p2), (4, .int p3), (5, .ref ao)]) [0, 1, 2, 3, 4, 5] rfl ?_
  refine nw_aload C dL_lodge_0 5 rfl ?_
  refine nw_iconst (v := 0) C dL_lodge_2 (by decide) ?_
  refine nw_aload_n C dL_lodge_3 rfl 0 rfl ?_
  refine nw_iload_n C dL_lodge_4 rfl 1 rfl ?_
  refine nw_iload_n C dL_lodge_5 rfl 2 rfl ?_
  refine nw_iload_n C dL_lodge_6 rfl 3 rfl ?_
  refine nw_iload C dL_lodge_7 4 rfl ?_
  refine nw_callVX (q0 := 0) (As := [.int p0, .int p1, .int p2, .int p3]) (rest := [.int 0, .ref ao]) C (c_FC_lodge hl h hφ2) tw_1483 kv_X11_lodge cl_FC rfl ⟨Nat.le_of_ble_eq_true rfl, Nat.le_of_ble_eq_true rfl⟩ ⟨by show _ ≤ BB - ph σ.2.2 + 1; omega, by show _ ≤ 2 * (BB - ph σ.2.2) + 6; omega⟩ rfl dL_lodge_9 rfl (Nat.le_of_ble_eq_true rfl) ?_ ?_
  · rintro w ws1 ⟨hc0, rfl, ⟨ta1, rfl⟩, h3, h4⟩
    have hc0 : c0 = 0 := hc0
    subst hc0
    refine nw_i2l C dL_lodge_12 ?_
    refine nw_last C (60 + R1.length) oW_at dL_lodge_13 (by unfold vp_in; decide) oW_set ?_
    refine nw_goto (tgt := 25) C dL_lodge_14 (by decide) ?_
    refine nw_iconst (v := 0) C dL_lodge_25 (by decide) ?_
    exact nw_iret C hr dL_lodge_26 (Nat.le_of_eq (Nat.zero_add _)) (Nat.le_of_eq (Nat.zero_add _)) ⟨rfl, ⟨ta1, rfl⟩, h3, h4⟩
  · rintro E ws1 H1 locs1 ls q ce ⟨hc0, hE, ⟨ta1, rfl⟩, h3, h4⟩ hP hD hS hl2 hce hcv hcl
    have hc0 : ¬ c0 = 0 := hc0
    have hE : E = exN c0 := hE
    rcases hc with hc | hc | hc
    · exact absurd hc hc0
    · subst hc
      have hE : E = "java/lang/IndexOutOfBoundsException" := hE
      subst hE
      refine nw_catch (name := "java/lang/IndexOutOfBoundsException") C htab [] ⟨0, 14, 17, 28⟩ [⟨0, 14, 21, 13⟩] rfl (fun z hz => nomatch hz) (by decide) (by decide) tw_985 tw_996 hP hD hS hl2 hce hcv hcl ?_
      refine nw_astore (lv' := [(6, .ref q), (0, .ref (ad 0)), (1, .int p0), (2, .int p1), (3, .int p2), (4, .int p3), (5, .ref ao)]) C dL_lodge_17 (by decide) rfl ?_
      refine nw_iconst (v := 1) C dL_lodge_19 (by decide) ?_
      exact nw_iret C hr dL_lodge_20 (Nat.le_of_eq (Nat.zero_add _)) (Nat.le_of_eq (Nat.zero_add _)) ⟨rfl, ⟨ta1, rfl⟩, h3, h4⟩
    · subst hc
      have hE : E = "java/lang/IllegalArgumentException" := hE
      subst hE
      refine nw_catch (name := "java/lang/IllegalArgumentException") C htab [⟨0, 14, 17, 28⟩] ⟨0, 14, 21, 13⟩ [] rfl (fun z hz => by rcases List.mem_singleton.mp hz with rfl; exact Or.inr ⟨by decide, "java/lang/IndexOutOfBoundsException", tw_985, nc1⟩) (by decide) (by decide) tw_669 tw_683 hP hD hS hl2 hce hcv hcl ?_
      refine nw_astore (lv' := [(6, .ref q), (0, .ref (ad 0)), (1, .int p0), (2, .int p1), (3, .int p2), (4, .int p3), (5, .ref ao)]) C dL_lodge_21 (by decide) rfl ?_
      refine nw_iconst (v := 2) C dL_lodge_23 (by decide) ?_
      exact nw_iret C hr dL_lodge_24 (Nat.le_of_eq (Nat.zero_add _)) (Nat.le_of_eq (Nat.zero_add _)) ⟨rfl, ⟨ta1, rfl⟩, h3, h4⟩
theorem dL_spot_0 : decode cL_spot 0 = .ok (.aload 4, 2) := by decide +kernel
theorem dL_spot_2 : decode cL_spot 2 = .ok (.iconst 0, 1) := by decide +kernel
theorem dL_spot_3 : decode cL_spot 3 = .ok (.aload_n 0, 1) := by decide +kernel
theorem dL_spot_4 : decode cL_spot 4 = .ok (.iload_n 1, 1) := by decide +kernel
theorem dL_spot_5 : decode cL_spot 5 = .ok (.iload_n 2, 1) := by decide +kernel
theorem dL_spot_6 : decode cL_spot 6 = .ok (.iload_n 3, 1) := by decide +kernel
theorem dL_spot_7 : decode cL_spot 7 = .ok (.invokevirtual 109, 3) := by decide +kernel
theorem dL_spot_10 : decode cL_spot 10 = .ok (.i2l, 1) := by decide +kernel
theorem dL_spot_11 : decode cL_spot 11 = .ok (.lastore, 1) := by decide +kernel
theorem dL_spot_12 : decode cL_spot 12 = .ok (.goto 7, 3) := by decide +kernel
theorem dL_spot_15 : decode cL_spot 15 = .ok (.astore 5, 2) := by decide +kernel
theorem dL_spot_17 : decode cL_spot 17 = .ok (.iconst 1, 1) := by decide +kernel
theorem dL_spot_18 : decode cL_spot 18 = .ok (.ireturn, 1) := by decide +kernel
theorem dL_spot_19 : decode cL_spot 19 = .ok (.iconst 0, 1) := by decide +kernel
theorem dL_spot_20 : decode cL_spot 20 = .ok (.ireturn, 1) := by decide +kernel
theorem kh_L_spot : Cond.codeWith yL_spot cL_spot 6 (some .int) [(0, 12, 15, 13)] ∈ TT ∧ (yL_spot.cls ≠ "java/lang/invoke/MethodHandle" ∧ yL_spot.cls ≠ "java/lang/invoke/VarHandle") ∧ (parseMethodDescriptor yL_spot.desc).map (fun d => d.parameters.length) = some 5 := ⟨tw_1494, by decide +kernel, by decide +kernel⟩
set_option maxHeartbeats 4000000 in
set_option maxRecDepth 100000 in
theorem z_spot {l : Launch} {g : EG} {ad ta : Nat → Nat} {R1 : va_W} {ao : Nat} {f : Nat → Int64} {σ σ1 : CS} {c0 v0 : Int32} {p0 p1 p2 : Int32} (hl : l.stackTraces = false) (h : f_FC_spot p0 p1 p2 σ = some ((c0, v0), σ1)) (hc : c0 = 0 ∨ c0 = 1) (hφ2 : ph σ.2.2 ≤ BB) :
    Ct l g yL_spot (.codeWith yL_spot cL_spot 6 (some .int) [(0, 12, 15, 13)]) 14 327 (BB - ph σ.2.2 + 1) (2 * (BB - ph σ.2.2) + 6) (cw g ad ta σ ++ (R1 ++ [oWl g ao f])) [.ref (ad 0), .int p0, .int p1, .int p2, .ref ao] (QZ g ad R1 ao (ph σ.2.2) (if c0 = 0 then 0 else 1) σ1 (if c0 = 0 then vp_updL f 0 v0.toInt64 else f)) (ph σ1.2.2 - ph σ.2.2 + 1) (2 * (ph σ1.2.2 - ph σ.2.2) + 6) := by
  refine Ct.ofH rfl (by decide) (Nat.le_of_ble_eq_true rfl) ?_
  intro p e s m args below meth c A C hr htab
  refine nw_lv (lv' := [(0, .ref (ad 0)), (1, .int p0), (2, .int p1), (3, .int p2), (4, .ref ao)]) [0, 1, 2, 3, 4] rfl ?_
  refine nw_aload C dL_spot_0 4 rfl ?_
  refine nw_iconst (v := 0) C dL_spot_2 (by decide) ?_
  refine nw_aload_n C dL_spot_3 rfl 0 rfl ?_
  refine nw_iload_n C dL_spot_4 rfl 1 rfl ?_
  refine nw_iload_n C dL_spot_5 rfl 2 rfl ?_
  refine nw_iload_n C dL_spot_6 rfl 3 rfl ?_
  refine nw_callVX (q0 := 0) (As := [.int p0, .int p1, .int p2]) (rest := [.int 0, .ref ao]) C (c_FC_spot hl h hφ2) tw_1495 kv_X11_spot cl_FC rfl ⟨Nat.le_of_ble_eq_true rfl, Nat.le_of_ble_eq_true rfl⟩ ⟨by show _ ≤ BB - ph σ.2.2 + 1; omega, by show _ ≤ 2 * (BB - ph σ.2.2) + 6; omega⟩ rfl dL_spot_7 rfl (Nat.le_of_ble_eq_true rfl) ?_ ?_
  · rintro w ws1 ⟨hc0, rfl, ⟨ta1, rfl⟩, h3, h4⟩
    have hc0 : c0 = 0 := hc0
    subst hc0
    refine nw_i2l C dL_spot_10 ?_
    refine nw_last C (60 + R1.length) oW_at dL_spot_11 (by unfold vp_in; decide) oW_set ?_
    refine nw_goto (tgt := 19) C dL_spot_12 (by decide) ?_
    refine nw_iconst (v := 0) C dL_spot_19 (by decide) ?_
    exact nw_iret C hr dL_spot_20 (Nat.le_of_eq (Nat.zero_add _)) (Nat.le_of_eq (Nat.zero_add _)) ⟨rfl, ⟨ta1, rfl⟩, h3, h4⟩
  · rintro E ws1 H1 locs1 ls q ce ⟨hc0, hE, ⟨ta1, rfl⟩, h3, h4⟩ hP hD hS hl2 hce hcv hcl
    have hc0 : ¬ c0 = 0 := hc0
    have hE : E = exN c0 := hE
    rcases hc with hc | hc
    · exact absurd hc hc0
    · subst hc
      have hE : E = "java/lang/IllegalArgumentException" := hE
      subst hE
      refine nw_catch (name := "java/lang/IllegalArgumentException") C htab [] ⟨0, 12, 15, 13⟩ [] rfl (fun z hz => nomatch hz) (by decide) (by decide) tw_669 tw_683 hP hD hS hl2 hce hcv hcl ?_
      refine nw_astore (lv' := [(5, .ref q), (0, .ref (ad 0)), (1, .int p0), (2, .int p1), (3, .int p2), (4, .ref ao)]) C dL_spot_15 (by decide) rfl ?_
      refine nw_iconst (v := 1) C dL_spot_17 (by decide) ?_
      exact nw_iret C hr dL_spot_18 (Nat.le_of_eq (Nat.zero_add _)) (Nat.le_of_eq (Nat.zero_add _)) ⟨rfl, ⟨ta1, rfl⟩, h3, h4⟩
theorem dL_beat_0 : decode cL_beat 0 = .ok (.aload_n 2, 1) := by decide +kernel
theorem dL_beat_1 : decode cL_beat 1 = .ok (.iconst 0, 1) := by decide +kernel
theorem dL_beat_2 : decode cL_beat 2 = .ok (.aload_n 0, 1) := by decide +kernel
theorem dL_beat_3 : decode cL_beat 3 = .ok (.iload_n 1, 1) := by decide +kernel
theorem dL_beat_4 : decode cL_beat 4 = .ok (.invokevirtual 112, 3) := by decide +kernel
theorem dL_beat_7 : decode cL_beat 7 = .ok (.i2l, 1) := by decide +kernel
theorem dL_beat_8 : decode cL_beat 8 = .ok (.lastore, 1) := by decide +kernel
theorem dL_beat_9 : decode cL_beat 9 = .ok (.goto 6, 3) := by decide +kernel
theorem dL_beat_12 : decode cL_beat 12 = .ok (.astore_n 3, 1) := by decide +kernel
theorem dL_beat_13 : decode cL_beat 13 = .ok (.iconst 1, 1) := by decide +kernel
theorem dL_beat_14 : decode cL_beat 14 = .ok (.ireturn, 1) := by decide +kernel
theorem dL_beat_15 : decode cL_beat 15 = .ok (.iconst 0, 1) := by decide +kernel
theorem dL_beat_16 : decode cL_beat 16 = .ok (.ireturn, 1) := by decide +kernel
theorem kh_L_beat : Cond.codeWith yL_beat cL_beat 4 (some .int) [(0, 9, 12, 28)] ∈ TT ∧ (yL_beat.cls ≠ "java/lang/invoke/MethodHandle" ∧ yL_beat.cls ≠ "java/lang/invoke/VarHandle") ∧ (parseMethodDescriptor yL_beat.desc).map (fun d => d.parameters.length) = some 3 := ⟨tw_1506, by decide +kernel, by decide +kernel⟩
set_option maxHeartbeats 4000000 in
set_option maxRecDepth 100000 in
theorem z_beat {l : Launch} {g : EG} {ad ta : Nat → Nat} {R1 : va_W} {ao : Nat} {f : Nat → Int64} {σ σ1 : CS} {c0 v0 : Int32} {p0 : Int32} (hl : l.stackTraces = false) (h : f_FC_beat p0 σ = some ((c0, v0), σ1)) (hc : c0 = 0 ∨ c0 = 3) (hφ2 : ph σ.2.2 ≤ BB) :
    Ct l g yL_beat (.codeWith yL_beat cL_beat 4 (some .int) [(0, 9, 12, 28)]) 14 325 (BB - ph σ.2.2 + 1) (2 * (BB - ph σ.2.2) + 6) (cw g ad ta σ ++ (R1 ++ [oWl g ao f])) [.ref (ad 0), .int p0, .ref ao] (QZ g ad R1 ao (ph σ.2.2) (if c0 = 0 then 0 else 1) σ1 (if c0 = 0 then vp_updL f 0 v0.toInt64 else f)) (ph σ1.2.2 - ph σ.2.2 + 1) (2 * (ph σ1.2.2 - ph σ.2.2) + 6) := by
  refine Ct.ofH rfl (by decide) (Nat.le_of_ble_eq_true rfl) ?_
  intro p e s m args below meth c A C hr htab
  refine nw_lv (lv' := [(0, .ref (ad 0)), (1, .int p0), (2, .ref ao)]) [0, 1, 2] rfl ?_
  refine nw_aload_n C dL_beat_0 rfl 2 rfl ?_
  refine nw_iconst (v := 0) C dL_beat_1 (by decide) ?_
  refine nw_aload_n C dL_beat_2 rfl 0 rfl ?_
  refine nw_iload_n C dL_beat_3 rfl 1 rfl ?_
  refine nw_callVX (q0 := 0) (As := [.int p0]) (rest := [.int 0, .ref ao]) C (c_FC_beat hl h hφ2) tw_1507 kv_X11_beat cl_FC rfl ⟨Nat.le_of_ble_eq_true rfl, Nat.le_of_ble_eq_true rfl⟩ ⟨by show _ ≤ BB - ph σ.2.2 + 1; omega, by show _ ≤ 2 * (BB - ph σ.2.2) + 6; omega⟩ rfl dL_beat_4 rfl (Nat.le_of_ble_eq_true rfl) ?_ ?_
  · rintro w ws1 ⟨hc0, rfl, ⟨ta1, rfl⟩, h3, h4⟩
    have hc0 : c0 = 0 := hc0
    subst hc0
    refine nw_i2l C dL_beat_7 ?_
    refine nw_last C (60 + R1.length) oW_at dL_beat_8 (by unfold vp_in; decide) oW_set ?_
    refine nw_goto (tgt := 15) C dL_beat_9 (by decide) ?_
    refine nw_iconst (v := 0) C dL_beat_15 (by decide) ?_
    exact nw_iret C hr dL_beat_16 (Nat.le_of_eq (Nat.zero_add _)) (Nat.le_of_eq (Nat.zero_add _)) ⟨rfl, ⟨ta1, rfl⟩, h3, h4⟩
  · rintro E ws1 H1 locs1 ls q ce ⟨hc0, hE, ⟨ta1, rfl⟩, h3, h4⟩ hP hD hS hl2 hce hcv hcl
    have hc0 : ¬ c0 = 0 := hc0
    have hE : E = exN c0 := hE
    rcases hc with hc | hc
    · exact absurd hc hc0
    · subst hc
      have hE : E = "java/lang/IndexOutOfBoundsException" := hE
      subst hE
      refine nw_catch (name := "java/lang/IndexOutOfBoundsException") C htab [] ⟨0, 9, 12, 28⟩ [] rfl (fun z hz => nomatch hz) (by decide) (by decide) tw_985 tw_996 hP hD hS hl2 hce hcv hcl ?_
      refine nw_astore_n (lv' := [(3, .ref q), (0, .ref (ad 0)), (1, .int p0), (2, .ref ao)]) C dL_beat_12 rfl (by decide) rfl ?_
      refine nw_iconst (v := 1) C dL_beat_13 (by decide) ?_
      exact nw_iret C hr dL_beat_14 (Nat.le_of_eq (Nat.zero_add _)) (Nat.le_of_eq (Nat.zero_add _)) ⟨rfl, ⟨ta1, rfl⟩, h3, h4⟩
theorem dL_wood_0 : decode cL_wood 0 = .ok (.aload 4, 2) := by decide +kernel
theorem dL_wood_2 : decode cL_wood 2 = .ok (.iconst 0, 1) := by decide +kernel
theorem dL_wood_3 : decode cL_wood 3 = .ok (.aload_n 0, 1) := by decide +kernel
theorem dL_wood_4 : decode cL_wood 4 = .ok (.iload_n 1, 1) := by decide +kernel
theorem dL_wood_5 : decode cL_wood 5 = .ok (.iload_n 2, 1) := by decide +kernel
theorem dL_wood_6 : decode cL_wood 6 = .ok (.iload_n 3, 1) := by decide +kernel
theorem dL_wood_7 : decode cL_wood 7 = .ok (.invokevirtual 115, 3) := by decide +kernel
theorem dL_wood_10 : decode cL_wood 10 = .ok (.i2l, 1) := by decide +kernel
theorem dL_wood_11 : decode cL_wood 11 = .ok (.lastore, 1) := by decide +kernel
theorem dL_wood_12 : decode cL_wood 12 = .ok (.goto 7, 3) := by decide +kernel
theorem dL_wood_15 : decode cL_wood 15 = .ok (.astore 5, 2) := by decide +kernel
theorem dL_wood_17 : decode cL_wood 17 = .ok (.iconst 1, 1) := by decide +kernel
theorem dL_wood_18 : decode cL_wood 18 = .ok (.ireturn, 1) := by decide +kernel
theorem dL_wood_19 : decode cL_wood 19 = .ok (.iconst 0, 1) := by decide +kernel
theorem dL_wood_20 : decode cL_wood 20 = .ok (.ireturn, 1) := by decide +kernel
theorem kh_L_wood : Cond.codeWith yL_wood cL_wood 6 (some .int) [(0, 12, 15, 13)] ∈ TT ∧ (yL_wood.cls ≠ "java/lang/invoke/MethodHandle" ∧ yL_wood.cls ≠ "java/lang/invoke/VarHandle") ∧ (parseMethodDescriptor yL_wood.desc).map (fun d => d.parameters.length) = some 5 := ⟨tw_1517, by decide +kernel, by decide +kernel⟩
set_option maxHeartbeats 4000000 in
set_option maxRecDepth 100000 in
theorem z_wood {l : Launch} {g : EG} {ad ta : Nat → Nat} {R1 : va_W} {ao : Nat} {f : Nat → Int64} {σ σ1 : CS} {c0 v0 : Int32} {p0 p1 p2 : Int32} (hl : l.stackTraces = false) (h : f_FC_wood p0 p1 p2 σ = some ((c0, v0), σ1)) (hc : c0 = 0 ∨ c0 = 1) (hφ2 : ph σ.2.2 ≤ BB) :
    Ct l g yL_wood (.codeWith yL_wood cL_wood 6 (some .int) [(0, 12, 15, 13)]) 14 327 (BB - ph σ.2.2 + 1) (2 * (BB - ph σ.2.2) + 6) (cw g ad ta σ ++ (R1 ++ [oWl g ao f])) [.ref (ad 0), .int p0, .int p1, .int p2, .ref ao] (QZ g ad R1 ao (ph σ.2.2) (if c0 = 0 then 0 else 1) σ1 (if c0 = 0 then vp_updL f 0 v0.toInt64 else f)) (ph σ1.2.2 - ph σ.2.2 + 1) (2 * (ph σ1.2.2 - ph σ.2.2) + 6) := by
  refine Ct.ofH rfl (by decide) (Nat.le_of_ble_eq_true rfl) ?_
  intro p e s m args below meth c A C hr htab
  refine nw_lv (lv' := [(0, .ref (ad 0)), (1, .int p0), (2, .int p1), (3, .int p2), (4, .ref ao)]) [0, 1, 2, 3, 4] rfl ?_
  refine nw_aload C dL_wood_0 4 rfl ?_
  refine nw_iconst (v := 0) C dL_wood_2 (by decide) ?_
  refine nw_aload_n C dL_wood_3 rfl 0 rfl ?_
  refine nw_iload_n C dL_wood_4 rfl 1 rfl ?_
  refine nw_iload_n C dL_wood_5 rfl 2 rfl ?_
  refine nw_iload_n C dL_wood_6 rfl 3 rfl ?_
  refine nw_callVX (q0 := 0) (As := [.int p0, .int p1, .int p2]) (rest := [.int 0, .ref ao]) C (c_FC_wood hl h hφ2) tw_1518 kv_X11_wood cl_FC rfl ⟨Nat.le_of_ble_eq_true rfl, Nat.le_of_ble_eq_true rfl⟩ ⟨by show _ ≤ BB - ph σ.2.2 + 1; omega, by show _ ≤ 2 * (BB - ph σ.2.2) + 6; omega⟩ rfl dL_wood_7 rfl (Nat.le_of_ble_eq_true rfl) ?_ ?_
  · rintro w ws1 ⟨hc0, rfl, ⟨ta1, rfl⟩, h3, h4⟩
    have hc0 : c0 = 0 := hc0
    subst hc0
    refine nw_i2l C dL_wood_10 ?_
    refine nw_last C (60 + R1.length) oW_at dL_wood_11 (by unfold vp_in; decide) oW_set ?_
    refine nw_goto (tgt := 19) C dL_wood_12 (by decide) ?_
    refine nw_iconst (v := 0) C dL_wood_19 (by decide) ?_
    exact nw_iret C hr dL_wood_20 (Nat.le_of_eq (Nat.zero_add _)) (Nat.le_of_eq (Nat.zero_add _)) ⟨rfl, ⟨ta1, rfl⟩, h3, h4⟩
  · rintro E ws1 H1 locs1 ls q ce ⟨hc0, hE, ⟨ta1, rfl⟩, h3, h4⟩ hP hD hS hl2 hce hcv hcl
    have hc0 : ¬ c0 = 0 := hc0
    have hE : E = exN c0 := hE
    rcases hc with hc | hc
    · exact absurd hc hc0
    · subst hc
      have hE : E = "java/lang/IllegalArgumentException" := hE
      subst hE
      refine nw_catch (name := "java/lang/IllegalArgumentException") C htab [] ⟨0, 12, 15, 13⟩ [] rfl (fun z hz => nomatch hz) (by decide) (by decide) tw_669 tw_683 hP hD hS hl2 hce hcv hcl ?_
      refine nw_astore (lv' := [(5, .ref q), (0, .ref (ad 0)), (1, .int p0), (2, .int p1), (3, .int p2), (4, .ref ao)]) C dL_wood_15 (by decide) rfl ?_
      refine nw_iconst (v := 1) C dL_wood_17 (by decide) ?_
      exact nw_iret C hr dL_wood_18 (Nat.le_of_eq (Nat.zero_add _)) (Nat.le_of_eq (Nat.zero_add _)) ⟨rfl, ⟨ta1, rfl⟩, h3, h4⟩
theorem dL_take_0 : decode cL_take 0 = .ok (.aload 5, 2) := by decide +kernel
theorem dL_take_2 : decode cL_take 2 = .ok (.iconst 0, 1) := by decide +kernel
theorem dL_take_3 : decode cL_take 3 = .ok (.aload_n 0, 1) := by decide +kernel
theorem dL_take_4 : decode cL_take 4 = .ok (.iload_n 1, 1) := by decide +kernel
theorem dL_take_5 : decode cL_take 5 = .ok (.iload_n 2, 1) := by decide +kernel
theorem dL_take_6 : decode cL_take 6 = .ok (.iload_n 3, 1) := by decide +kernel
theorem dL_take_7 : decode cL_take 7 = .ok (.iload 4, 2) := by decide +kernel
theorem dL_take_9 : decode cL_take 9 = .ok (.invokevirtual 118, 3) := by decide +kernel
theorem dL_take_12 : decode cL_take 12 = .ok (.i2l, 1) := by decide +kernel
theorem dL_take_13 : decode cL_take 13 = .ok (.lastore, 1) := by decide +kernel
theorem dL_take_14 : decode cL_take 14 = .ok (.goto 11, 3) := by decide +kernel
theorem dL_take_17 : decode cL_take 17 = .ok (.astore 6, 2) := by decide +kernel
theorem dL_take_19 : decode cL_take 19 = .ok (.iconst 1, 1) := by decide +kernel
theorem dL_take_20 : decode cL_take 20 = .ok (.ireturn, 1) := by decide +kernel
theorem dL_take_21 : decode cL_take 21 = .ok (.astore 6, 2) := by decide +kernel
theorem dL_take_23 : decode cL_take 23 = .ok (.iconst 2, 1) := by decide +kernel
theorem dL_take_24 : decode cL_take 24 = .ok (.ireturn, 1) := by decide +kernel
theorem dL_take_25 : decode cL_take 25 = .ok (.iconst 0, 1) := by decide +kernel
theorem dL_take_26 : decode cL_take 26 = .ok (.ireturn, 1) := by decide +kernel
theorem kh_L_take : Cond.codeWith yL_take cL_take 7 (some .int) [(0, 14, 17, 28), (0, 14, 21, 13)] ∈ TT ∧ (yL_take.cls ≠ "java/lang/invoke/MethodHandle" ∧ yL_take.cls ≠ "java/lang/invoke/VarHandle") ∧ (parseMethodDescriptor yL_take.desc).map (fun d => d.parameters.length) = some 6 := ⟨tw_1533, by decide +kernel, by decide +kernel⟩
set_option maxHeartbeats 4000000 in
set_option maxRecDepth 100000 in
theorem z_take {l : Launch} {g : EG} {ad ta : Nat → Nat} {R1 : va_W} {ao : Nat} {f : Nat → Int64} {σ σ1 : CS} {c0 v0 : Int32} {p0 p1 p2 p3 : Int32} (hl : l.stackTraces = false) (h : f_FC_take p0 p1 p2 p3 σ = some ((c0, v0), σ1)) (hc : c0 = 0 ∨ c0 = 3 ∨ c0 = 1) (hφ2 : ph σ.2.2 ≤ BB) :
    Ct l g yL_take (.codeWith yL_take cL_take 7 (some .int) [(0, 14, 17, 28), (0, 14, 21, 13)]) 14 328 (BB - ph σ.2.2 + 1) (2 * (BB - ph σ.2.2) + 6) (cw g ad ta σ ++ (R1 ++ [oWl g ao f])) [.ref (ad 0), .int p0, .int p1, .int p2, .int p3, .ref ao] (QZ g ad R1 ao (ph σ.2.2) (if c0 = 0 then 0 else if c0 = 3 then 1 else 2) σ1 (if c0 = 0 then vp_updL f 0 v0.toInt64 else f)) (ph σ1.2.2 - ph σ.2.2 + 1) (2 * (ph σ1.2.2 - ph σ.2.2) + 6) := by
  refine Ct.ofH rfl (by decide) (Nat.le_of_ble_eq_true rfl) ?_
  intro p e s m args below meth c A C hr htab
  refine nw_lv (lv' := [(0, .ref (ad 0)), (1, .int p0), (2, .int p1), (3, .int p2), (4, .int p3), (5, .ref ao)]) [0, 1, 2, 3, 4, 5] rfl ?_
  refine nw_aload C dL_take_0 5 rfl ?_
  refine nw_iconst (v := 0) C dL_take_2 (by decide) ?_
  refine nw_aload_n C dL_take_3 rfl 0 rfl ?_
  refine nw_iload_n C dL_take_4 rfl 1 rfl ?_
  refine nw_iload_n C dL_take_5 rfl 2 rfl ?_
  refine nw_iload_n C dL_take_6 rfl 3 rfl ?_
  refine nw_iload C dL_take_7 4 rfl ?_
  refine nw_callVX (q0 := 0) (As := [.int p0, .int p1, .int p2, .int p3]) (rest := [.int 0, .ref ao]) C (c_FC_take hl h hφ2) tw_1534 kv_X11_take cl_FC rfl ⟨Nat.le_of_ble_eq_true rfl, Nat.le_of_ble_eq_true rfl⟩ ⟨by show _ ≤ BB - ph σ.2.2 + 1; omega, by show _ ≤ 2 * (BB - ph σ.2.2) + 6; omega⟩ rfl dL_take_9 rfl (Nat.le_of_ble_eq_true rfl) ?_ ?_
  · rintro w ws1 ⟨hc0, rfl, ⟨ta1, rfl⟩, h3, h4⟩
    have hc0 : c0 = 0 := hc0
    subst hc0
    refine nw_i2l C dL_take_12 ?_
    refine nw_last C (60 + R1.length) oW_at dL_take_13 (by unfold vp_in; decide) oW_set ?_
    refine nw_goto (tgt := 25) C dL_take_14 (by decide) ?_
    refine nw_iconst (v := 0) C dL_take_25 (by decide) ?_
    exact nw_iret C hr dL_take_26 (Nat.le_of_eq (Nat.zero_add _)) (Nat.le_of_eq (Nat.zero_add _)) ⟨rfl, ⟨ta1, rfl⟩, h3, h4⟩
  · rintro E ws1 H1 locs1 ls q ce ⟨hc0, hE, ⟨ta1, rfl⟩, h3, h4⟩ hP hD hS hl2 hce hcv hcl
    have hc0 : ¬ c0 = 0 := hc0
    have hE : E = exN c0 := hE
    rcases hc with hc | hc | hc
    · exact absurd hc hc0
    · subst hc
      have hE : E = "java/lang/IndexOutOfBoundsException" := hE
      subst hE
      refine nw_catch (name := "java/lang/IndexOutOfBoundsException") C htab [] ⟨0, 14, 17, 28⟩ [⟨0, 14, 21, 13⟩] rfl (fun z hz => nomatch hz) (by decide) (by decide) tw_985 tw_996 hP hD hS hl2 hce hcv hcl ?_
      refine nw_astore (lv' := [(6, .ref q), (0, .ref (ad 0)), (1, .int p0), (2, .int p1), (3, .int p2), (4, .int p3), (5, .ref ao)]) C dL_take_17 (by decide) rfl ?_
      refine nw_iconst (v := 1) C dL_take_19 (by decide) ?_
      exact nw_iret C hr dL_take_20 (Nat.le_of_eq (Nat.zero_add _)) (Nat.le_of_eq (Nat.zero_add _)) ⟨rfl, ⟨ta1, rfl⟩, h3, h4⟩
    · subst hc
      have hE : E = "java/lang/IllegalArgumentException" := hE
      subst hE
      refine nw_catch (name := "java/lang/IllegalArgumentException") C htab [⟨0, 14, 17, 28⟩] ⟨0, 14, 21, 13⟩ [] rfl (fun z hz => by rcases List.mem_singleton.mp hz with rfl; exact Or.inr ⟨by decide, "java/lang/IndexOutOfBoundsException", tw_985, nc1⟩) (by decide) (by decide) tw_669 tw_683 hP hD hS hl2 hce hcv hcl ?_
      refine nw_astore (lv' := [(6, .ref q), (0, .ref (ad 0)), (1, .int p0), (2, .int p1), (3, .int p2), (4, .int p3), (5, .ref ao)]) C dL_take_21 (by decide) rfl ?_
      refine nw_iconst (v := 2) C dL_take_23 (by decide) ?_
      exact nw_iret C hr dL_take_24 (Nat.le_of_eq (Nat.zero_add _)) (Nat.le_of_eq (Nat.zero_add _)) ⟨rfl, ⟨ta1, rfl⟩, h3, h4⟩
theorem dL_stock_0 : decode cL_stock 0 = .ok (.aload 5, 2) := by decide +kernel
theorem dL_stock_2 : decode cL_stock 2 = .ok (.iconst 0, 1) := by decide +kernel
theorem dL_stock_3 : decode cL_stock 3 = .ok (.aload_n 0, 1) := by decide +kernel
theorem dL_stock_4 : decode cL_stock 4 = .ok (.iload_n 1, 1) := by decide +kernel
theorem dL_stock_5 : decode cL_stock 5 = .ok (.iload_n 2, 1) := by decide +kernel
theorem dL_stock_6 : decode cL_stock 6 = .ok (.iload_n 3, 1) := by decide +kernel
theorem dL_stock_7 : decode cL_stock 7 = .ok (.iload 4, 2) := by decide +kernel
theorem dL_stock_9 : decode cL_stock 9 = .ok (.invokevirtual 121, 3) := by decide +kernel
theorem dL_stock_12 : decode cL_stock 12 = .ok (.i2l, 1) := by decide +kernel
theorem dL_stock_13 : decode cL_stock 13 = .ok (.lastore, 1) := by decide +kernel
theorem dL_stock_14 : decode cL_stock 14 = .ok (.goto 11, 3) := by decide +kernel
theorem dL_stock_17 : decode cL_stock 17 = .ok (.astore 6, 2) := by decide +kernel
theorem dL_stock_19 : decode cL_stock 19 = .ok (.iconst 1, 1) := by decide +kernel
theorem dL_stock_20 : decode cL_stock 20 = .ok (.ireturn, 1) := by decide +kernel
theorem dL_stock_21 : decode cL_stock 21 = .ok (.astore 6, 2) := by decide +kernel
theorem dL_stock_23 : decode cL_stock 23 = .ok (.iconst 2, 1) := by decide +kernel
theorem dL_stock_24 : decode cL_stock 24 = .ok (.ireturn, 1) := by decide +kernel
theorem dL_stock_25 : decode cL_stock 25 = .ok (.iconst 0, 1) := by decide +kernel
theorem dL_stock_26 : decode cL_stock 26 = .ok (.ireturn, 1) := by decide +kernel
theorem kh_L_stock : Cond.codeWith yL_stock cL_stock 7 (some .int) [(0, 14, 17, 28), (0, 14, 21, 13)] ∈ TT ∧ (yL_stock.cls ≠ "java/lang/invoke/MethodHandle" ∧ yL_stock.cls ≠ "java/lang/invoke/VarHandle") ∧ (parseMethodDescriptor yL_stock.desc).map (fun d => d.parameters.length) = some 6 := ⟨tw_1550, by decide +kernel, by decide +kernel⟩
set_option maxHeartbeats 4000000 in
set_option maxRecDepth 100000 in
theorem z_stock {l : Launch} {g : EG} {ad ta : Nat → Nat} {R1 : va_W} {ao : Nat} {f : Nat → Int64} {σ σ1 : CS} {c0 v0 : Int32} {p0 p1 p2 p3 : Int32} (hl : l.stackTraces = false) (h : f_FC_stock p0 p1 p2 p3 σ = some ((c0, v0), σ1)) (hc : c0 = 0 ∨ c0 = 3 ∨ c0 = 1) (hφ2 : ph σ.2.2 ≤ BB) :
    Ct l g yL_stock (.codeWith yL_stock cL_stock 7 (some .int) [(0, 14, 17, 28), (0, 14, 21, 13)]) 14 328 (BB - ph σ.2.2 + 1) (2 * (BB - ph σ.2.2) + 6) (cw g ad ta σ ++ (R1 ++ [oWl g ao f])) [.ref (ad 0), .int p0, .int p1, .int p2, .int p3, .ref ao] (QZ g ad R1 ao (ph σ.2.2) (if c0 = 0 then 0 else if c0 = 3 then 1 else 2) σ1 (if c0 = 0 then vp_updL f 0 v0.toInt64 else f)) (ph σ1.2.2 - ph σ.2.2 + 1) (2 * (ph σ1.2.2 - ph σ.2.2) + 6) := by
  refine Ct.ofH rfl (by decide) (Nat.le_of_ble_eq_true rfl) ?_
  intro p e s m args below meth c A C hr htab
  refine nw_lv (lv' := [(0, .ref (ad 0)), (1, .int p0), (2, .int p1), (3, .int p2), (4, .int p3), (5, .ref ao)]) [0, 1, 2, 3, 4, 5] rfl ?_
  refine nw_aload C dL_stock_0 5 rfl ?_
  refine nw_iconst (v := 0) C dL_stock_2 (by decide) ?_
  refine nw_aload_n C dL_stock_3 rfl 0 rfl ?_
  refine nw_iload_n C dL_stock_4 rfl 1 rfl ?_
  refine nw_iload_n C dL_stock_5 rfl 2 rfl ?_
  refine nw_iload_n C dL_stock_6 rfl 3 rfl ?_
  refine nw_iload C dL_stock_7 4 rfl ?_
  refine nw_callVX (q0 := 0) (As := [.int p0, .int p1, .int p2, .int p3]) (rest := [.int 0, .ref ao]) C (c_FC_stock hl h hφ2) tw_1551 kv_X11_stock cl_FC rfl ⟨Nat.le_of_ble_eq_true rfl, Nat.le_of_ble_eq_true rfl⟩ ⟨by show _ ≤ BB - ph σ.2.2 + 1; omega, by show _ ≤ 2 * (BB - ph σ.2.2) + 6; omega⟩ rfl dL_stock_9 rfl (Nat.le_of_ble_eq_true rfl) ?_ ?_
  · rintro w ws1 ⟨hc0, rfl, ⟨ta1, rfl⟩, h3, h4⟩
    have hc0 : c0 = 0 := hc0
    subst hc0
    refine nw_i2l C dL_stock_12 ?_
    refine nw_last C (60 + R1.length) oW_at dL_stock_13 (by unfold vp_in; decide) oW_set ?_
    refine nw_goto (tgt := 25) C dL_stock_14 (by decide) ?_
    refine nw_iconst (v := 0) C dL_stock_25 (by decide) ?_
    exact nw_iret C hr dL_stock_26 (Nat.le_of_eq (Nat.zero_add _)) (Nat.le_of_eq (Nat.zero_add _)) ⟨rfl, ⟨ta1, rfl⟩, h3, h4⟩
  · rintro E ws1 H1 locs1 ls q ce ⟨hc0, hE, ⟨ta1, rfl⟩, h3, h4⟩ hP hD hS hl2 hce hcv hcl
    have hc0 : ¬ c0 = 0 := hc0
    have hE : E = exN c0 := hE
    rcases hc with hc | hc | hc
    · exact absurd hc hc0
    · subst hc
      have hE : E = "java/lang/IndexOutOfBoundsException" := hE
      subst hE
      refine nw_catch (name := "java/lang/IndexOutOfBoundsException") C htab [] ⟨0, 14, 17, 28⟩ [⟨0, 14, 21, 13⟩] rfl (fun z hz => nomatch hz) (by decide) (by decide) tw_985 tw_996 hP hD hS hl2 hce hcv hcl ?_
      refine nw_astore (lv' := [(6, .ref q), (0, .ref (ad 0)), (1, .int p0), (2, .int p1), (3, .int p2), (4, .int p3), (5, .ref ao)]) C dL_stock_17 (by decide) rfl ?_
      refine nw_iconst (v := 1) C dL_stock_19 (by decide) ?_
      exact nw_iret C hr dL_stock_20 (Nat.le_of_eq (Nat.zero_add _)) (Nat.le_of_eq (Nat.zero_add _)) ⟨rfl, ⟨ta1, rfl⟩, h3, h4⟩
    · subst hc
      have hE : E = "java/lang/IllegalArgumentException" := hE
      subst hE
      refine nw_catch (name := "java/lang/IllegalArgumentException") C htab [⟨0, 14, 17, 28⟩] ⟨0, 14, 21, 13⟩ [] rfl (fun z hz => by rcases List.mem_singleton.mp hz with rfl; exact Or.inr ⟨by decide, "java/lang/IndexOutOfBoundsException", tw_985, nc1⟩) (by decide) (by decide) tw_669 tw_683 hP hD hS hl2 hce hcv hcl ?_
      refine nw_astore (lv' := [(6, .ref q), (0, .ref (ad 0)), (1, .int p0), (2, .int p1), (3, .int p2), (4, .int p3), (5, .ref ao)]) C dL_stock_21 (by decide) rfl ?_
      refine nw_iconst (v := 2) C dL_stock_23 (by decide) ?_
      exact nw_iret C hr dL_stock_24 (Nat.le_of_eq (Nat.zero_add _)) (Nat.le_of_eq (Nat.zero_add _)) ⟨rfl, ⟨ta1, rfl⟩, h3, h4⟩
