section NWC
variable {g : EG} {p : Program} {l : Launch} {e : Env} {R : Room} {s : State} {m : MethodId} {args : Array Value} {below : List Frame} {meth : Method} {c : Code} {A : Nat → Prop} {Q : State → Prop} {nL : Nat} {cc : ByteArray} {own : String} {ws : va_W} {cells slots : Nat} {lv lv' : List (Nat × Value)} {pc : Nat} {st : List Value}
/-- what is owed at a method's end -/
def RQ (g : EG) (below : List Frame) (args : Array Value) (s : State) (mc ms : Nat) (A : Nat → Prop) (Qq : Option Value → va_W → Prop) : State → Prop :=
  MQ below (fun _ st oc t => (∃ v ws', oc = .returned v ∧ Qq v ws' ∧ va_P (gD g) vwCl ws' t.heap ∧ va_D A ws') ∧ va_F A st t) args s mc ms A
/-- a contract: over the world ws, with the arguments av, the method returns v and leaves ws' with Qq v ws' -/
def Ct (l : Launch) (g : EG) (y : MethodName) (cd : Cond) (fr lo kc ks : Nat) (ws : va_W) (av : List Value) (Qq : Option Value → va_W → Prop) (mc ms : Nat) : Prop :=
  ∀ sz : Nat, Met l y (cd :: TT) { frames := fr, cells := kc, slots := ks, locals := lo }
    (va_Pc av (fun U => U.heap.size = sz ∧ va_P (gD g) vwCl ws U.heap ∧ EO g (va_A ws sz) U ∧ va_D (fun _ => True) ws))
    (fun _ st oc t => (∃ v ws', oc = .returned v ∧ Qq v ws' ∧ va_P (gD g) vwCl ws' t.heap ∧ va_D (va_A ws sz) ws') ∧ va_F (va_A ws sz) st t) mc ms (va_A ws sz)
theorem Ct.of {y : MethodName} {cd : Cond} {maxL fr lo kc ks mc ms : Nat} {ret : Option FieldType} {av : List Value} {Qq : Option Value → va_W → Prop} (hcd : cd = .code y cc maxL ret) (hy : plainName y.cls = true) (hlen : (lg_sl av).length ≤ maxL)
    (body : ∀ (p : Program) (e : Env) (s : State) (m : MethodId) (args : Array Value) (below : List Frame) (meth : Method) (c : Code) (A : Nat → Prop), Cx g p s m args meth c A maxL cc y.cls → meth.sig.returnType = ret →
      Nw g p l e { frames := fr, cells := kc, slots := ks, locals := lo } s m args below meth c A (RQ g below args s mc ms A Qq) maxL ws 0 0 (lv_args 0 av) 0 []) : Ct l g y cd fr lo kc ks ws av Qq mc ms := by
  intro sz
  subst hcd
  refine Met.ofW (cc := cc) (maxL := maxL) (ret := ret) hy rfl ?_
  intro p e s m args below meth c s₁ B hml hv
  obtain ⟨rfl, hsz, hP, hE, hD0⟩ := hv
  have hts := atoms_spec (ws := Cond.code y cc maxL ret :: TT) B.pre
  have hown : s.vm.findClass y.cls = some m.cls := findClass_of_methodNamed B.named
  subst hsz
  have hD := hD0.self (sz := s.heap.size)
  have hl := lv_entry av hlen
  rw [lg_entry_eq]
  exact body p e s m _ below meth c _ ⟨B.exec, B.bytes, hml, hown, fun w h => hts w (List.mem_cons_of_mem _ h), hE, fun q h => Or.inr h, B.notSynchronized⟩ B.returns s.heap [] _ hP hD va_S.rf hl
theorem nw_ret0 {v : Option Value} {mc ms : Nat} {Qq : Option Value → va_W → Prop} (hc : cells ≤ mc) (hs : slots ≤ ms) (hq : Qq v ws)
    (k : ∀ (H : Heap) (locs : List Loc) (ls : Array Slot), (∀ q ∈ locs, A q.base) → (∀ t : State, t.heap = H → s.WarmedH t.vm → ((∃ v' ws', Outcome.returned v = .returned v' ∧ Qq v' ws' ∧ va_P (gD g) vwCl ws' t.heap ∧ va_D A ws') ∧ va_F A s t)) → W p l e R s m args below meth c H locs mc ms (RQ g below args s mc ms A Qq) (F0 m pc ls st)) :
    Nw g p l e R s m args below meth c A (RQ g below args s mc ms A Qq) nL ws cells slots lv pc st :=
  fun H locs ls hP hD hS hl => W.widen hc hs (k H locs ls hS.2.2 (fun t ht _ => ⟨⟨v, ws, rfl, hq, by rw [ht]; exact hP, hD⟩, hS.F ht⟩))
theorem nw_iret (C : Cx g p s m args meth c A nL cc own) {v : Int32} {mc ms : Nat} {Qq : Option Value → va_W → Prop} (hr : meth.sig.returnType = some .int) (hd : decode cc pc = .ok (.ireturn, 1)) (hc : cells ≤ mc) (hs : slots ≤ ms) (hq : Qq (some (.int v)) ws) :
    Nw g p l e R s m args below meth c A (RQ g below args s mc ms A Qq) nL ws cells slots lv pc [.int v] :=
  nw_ret0 (v := some (.int v)) hc hs hq (fun H locs ls hf hk => W.iret C.1 C.2.1 hr (fun t ht hW => hk t ht hW) hf hd C.2.2.2.2.2.2.2)
theorem nw_lret (C : Cx g p s m args meth c A nL cc own) {v : Int64} {mc ms : Nat} {Qq : Option Value → va_W → Prop} (hr : meth.sig.returnType = some .long) (hd : decode cc pc = .ok (.lreturn, 1)) (hc : cells ≤ mc) (hs : slots ≤ ms) (hq : Qq (some (.long v)) ws) :
    Nw g p l e R s m args below meth c A (RQ g below args s mc ms A Qq) nL ws cells slots lv pc [.long v] :=
  nw_ret0 (v := some (.long v)) hc hs hq (fun H locs ls hf hk => W.lret C.1 C.2.1 hr (fun t ht hW => hk t ht hW) hf hd (hlocks := C.2.2.2.2.2.2.2))
theorem nw_vret (C : Cx g p s m args meth c A nL cc own) {mc ms : Nat} {Qq : Option Value → va_W → Prop} (hr : meth.sig.returnType = none) (hd : decode cc pc = .ok (.return_, 1)) (hc : cells ≤ mc) (hs : slots ≤ ms) (hq : Qq none ws) :
    Nw g p l e R s m args below meth c A (RQ g below args s mc ms A Qq) nL ws cells slots lv pc [] :=
  nw_ret0 (v := none) hc hs hq (fun H locs ls hf hk => W.vret C.1 C.2.1 hr (fun t ht hW => hk t ht hW) hf hd (hlocks := C.2.2.2.2.2.2.2))
theorem kback {y : MethodName} {ws0 : List Cond} {rm : Room} {Pc : Array Value → State → Prop} {Qc : Array Value → State → Outcome → State → Prop} {mc ms : Nat} {free : Addr → Prop} {bytes : ByteArray} {maxL len : Nat} {ret : Option FieldType}
    (hM : Met l y ws0 rm Pc Qc mc ms free) (hblind : FrameBlind Pc) (hframes : rm.frames + 1 ≤ R.frames) (hlocals : 8 + (maxL + 11) + rm.locals ≤ R.locals)
    (hws : ∀ w ∈ ws0, ∀ (a' : Array Value) (U : State), s.WarmedH U.vm → w.before a' U = true) (hcode : Cond.code y bytes maxL ret ∈ ws0) (hinit : ∀ (a' : Array Value) (U : State), s.WarmedH U.vm → (Cond.initialized y.cls).before a' U = true) :
    Back l R p e below s args y len 8 (fun A a => A.cells + rm.cells ≤ R.cells ∧ A.slots + rm.slots ≤ R.slots ∧ Pc a A.U) (PostOf Qc mc ms free) := by
  refine Back.of_free (S := headSpec ws0 rm) (P := Pc) (K := fun _ _ _ _ _ => True) (Q := fun a st o t => Qc a st o t ∧ ∃ L, FrameEnd st o t L mc ms ∧ ∀ q ∈ L, free q.base) (bytes := bytes) (maxL := maxL) (ret := ret)
    (E := fun a st o t L k n => k = mc ∧ n = ms ∧ ∀ q ∈ L, free q.base) hM hframes hlocals ?_ ?_ (fun _ _ _ _ _ _ _ _ _ => trivial) ?_ ?_
  · intro m meth c A a X hp
    exact ⟨atoms_intro fun w hw => hws w hw _ _ X.warmed, hws _ hcode _ _ X.warmed, hinit _ _ X.warmed, hp.1, hp.2.1⟩
  · intro m meth c A a g mk X hp
    exact hblind _ _ _ _ hp.2.2
  · intro a st o t ⟨hq, L, hF, hL⟩
    exact ⟨L, mc, ms, hF, rfl, rfl, hL⟩
  · intro m meth c A a g mk v t L k n X hp hq hF ⟨e1, e2, hL⟩
    subst e1; subst e2
    exact ⟨g, mk, t, L, rfl, rfl, hq.1, rfl, hL, rfl, rfl⟩
theorem TT_at (hts : ∀ w ∈ TT, w.before args s = true) {w : Cond} (h : w ∈ TT) (a' : Array Value) (U : State) (hW : s.WarmedH U.vm) : w.before a' U = true := word_at hW (good_of_word (TT_good h)) (hts w h)
theorem ct_blind {av : List Value} {sz : Nat} : FrameBlind (va_Pc av (fun U => U.heap.size = sz ∧ va_P (gD g) vwCl ws U.heap ∧ EO g (va_A ws sz) U ∧ va_D (fun _ => True) ws)) :=
  fun a U f mk h => ⟨h.1, h.2.1, h.2.2.1, EO.same h.2.2.2.1 rfl rfl, h.2.2.2.2⟩
theorem ct_sub {H : Heap} {locs : List Loc} (hD : va_D A ws) (hS : va_S A s.heap H locs) (hA : ∀ q : Nat, s.heap.size ≤ q → A q) : ∀ q, va_A ws H.size q → A q := by
  intro q h
  rcases h with ⟨k, e, h⟩ | h
  · exact hD.2 k (q, e) h
  · exact hA q (Nat.le_trans hS.1 h)
/-- behind a call, whatever its kind -/
theorem ct_back {H : Heap} {locs : List Loc} {ls : Array Slot} {rest : List Value} {mc ms : Nat} {Qq : Option Value → va_W → Prop} (C : Cx g p s m args meth c A nL cc own) (hP : va_P (gD g) vwCl ws H) (hD : va_D A ws) (hS : va_S A s.heap H locs) (hl : lv_has ls nL lv)
    (h : ∀ T : State, T.heap = H → Stand p l e R s m args below meth c T locs cells slots → ∃ (v : Option Value) (st₀ t T' : State) (L : List Loc), st₀.heap = H ∧ Stand p l e R s m args below meth c T' (locs ++ L) (cells + mc) (slots + ms) ∧ (∀ q ∈ L, va_A ws H.size q.base) ∧ T'.heap = t.heap ∧
      ((∃ v' ws', Outcome.returned v = .returned v' ∧ Qq v' ws' ∧ va_P (gD g) vwCl ws' t.heap ∧ va_D (va_A ws H.size) ws') ∧ va_F (va_A ws H.size) st₀ t) ∧ ∀ target, Steps p.tables e below (T'.setTop { (F0 m pc ls st) with pc := pc + 3, stack := v.toList ++ rest }) target → Steps p.tables e below (T.setTop (F0 m pc ls st)) target)
    (k : ∀ v ws', Qq v ws' → Nw g p l e R s m args below meth c A Q nL ws' (cells + mc) (slots + ms) lv (pc + 3) (v.toList ++ rest)) : W p l e R s m args below meth c H locs cells slots Q (F0 m pc ls st) := by
  intro T hT X
  obtain ⟨v, st₀, t, T', L, h0, X', hL, e1, ⟨⟨v', ws', hv, hq, hP1, hD1⟩, hz, hk⟩, stp⟩ := h T hT X
  cases hv
  have hsub := ct_sub hD hS C.2.2.2.2.2.2.1
  rw [h0] at hz hk
  obtain ⟨t2, a1, b1⟩ := k v ws' hq T'.heap (locs ++ L) ls (by rw [e1]; exact hP1) (hD1.weaken (fun _ q _ h => hsub _ h))
    ⟨Nat.le_trans hS.1 (by rw [e1]; exact hz), fun q h1 h2 => by rw [e1, hk q (Nat.lt_of_lt_of_le h1 hS.1) (fun z => h2 (hsub q z))]; exact hS.2.1 q h1 h2, fun q hq => by
      rcases List.mem_append.mp hq with h | h
      · exact hS.2.2 q h
      · exact hsub _ (hL q h)⟩ hl T' rfl X'
  exact ⟨t2, stp t2 a1, b1⟩
theorem nw_callV {y : MethodName} {bytes : ByteArray} {maxL fr lo kc ks mc ms n index : Nat} {ret : Option FieldType} {As rest : List Value} {Qq : Option Value → va_W → Prop} (C : Cx g p s m args meth c A nL cc own) {b ci q0 nf : Nat} {fs : List Value} {Cn : String} {T : u_T} (hM : Ct l g y (.code y bytes maxL ret) fr lo kc ks ws (.ref b :: As) Qq mc ms) (hlink : Cond.methodLink own index y ∈ TT) (hinst : Cond.instanceMethod y ∈ TT) (hsel : Cond.selects Cn y y ∈ TT) (hini : Cond.initialized y.cls ∈ TT) (hcode : Cond.code y bytes maxL ret ∈ TT) (hy : y.cls ≠ "java/lang/invoke/MethodHandle" ∧ y.cls ≠ "java/lang/invoke/VarHandle") (hlen : (parseMethodDescriptor y.desc).map (fun d => d.parameters.length) = some n) (he : ws[q0]? = some (b, .inr (ci, fs))) (hcl : vwCl[ci]? = some (Cn, T, nf)) (hR : fr + 1 ≤ R.frames ∧ 8 + (maxL + 11) + lo ≤ R.locals) (hf : cells + kc ≤ R.cells ∧ slots + ks ≤ R.slots) (hn : As.length = n) (hd : decode cc pc = .ok (.invokevirtual index, 3)) (hst : st = As.reverse ++ .ref b :: rest) (hW : (rest.map fun v => v.category).sum ≤ 8) (k : ∀ v ws', Qq v ws' → Nw g p l e R s m args below meth c A Q nL ws' (cells + mc) (slots + ms) lv (pc + 3) (v.toList ++ rest)) :
    Nw g p l e R s m args below meth c A Q nL ws cells slots lv pc st := by
  intro H locs ls hP hD hS hl
  obtain ⟨hx, hb, hml, hown, hts, hE, hA, hlk⟩ := id C
  have hsub := ct_sub hD hS hA
  have hK := kback (R := R) (p := p) (e := e) (below := below) (s := s) (args := args) (len := 3) (bytes := bytes) (maxL := maxL) (ret := ret) (hM H.size) ct_blind hR.1 hR.2 (fun w hw a' U hW => by
      rcases List.mem_cons.mp hw with h | h
      · rw [h]; exact TT_at hts hcode a' U hW
      · exact TT_at hts h a' U hW) List.mem_cons_self (fun a' U hW => TT_at hts hini a' U hW)
  refine ct_back (rest := rest) C hP hD hS hl ?_ k
  intro T hT X
  obtain ⟨cellB, hcB, hoB, hclB⟩ := va_recv hE.1 hP hcl he
  obtain ⟨v, vm₁, ⟨U', l2, c2, s2⟩, hW₁, X', ⟨g', mk, t, L, e1, e2, hq, h1, hL, h2, h3⟩, stp⟩ := callV X hx (C := Cn) (bytes := bytes) (maxL := maxL) (ret := ret) hown (hts _ hlink) (hts _ hinst) (hts _ hsel) (hts _ hcode) hy hK (by rw [hT]; exact hcB) hoB hclB (g := F0 m pc ls st) rfl (hl.1.trans hml.symm) (argsL := As) (rest := rest) (fun sig h => hn.trans (by rw [h] at hlen; exact (Option.some.inj hlen).symm)) hst (lv_room hW) (by rw [hb]; exact hd)
    (fun vm₁ hW₁ => ⟨hf.1, hf.2, rfl, by show (T.setVm vm₁).heap.size = _; exact congrArg Array.size hT, by show va_P _ _ _ (T.setVm vm₁).heap; rw [show (T.setVm vm₁).heap = H from hT]; exact hP, EO.call hE hS hsub hT hW₁, hD.weaken (fun _ _ _ _ => trivial)⟩)
  dsimp only [Pt.U, Pt.locs, Pt.cells, Pt.slots] at X' e1 e2 h1 h2 h3 stp
  subst h1; subst h2; subst h3
  exact ⟨v, _, t, U', L, hT, X', hL, e1, hq, stp⟩
theorem nw_callVN {y : MethodName} {bytes : ByteArray} {maxL fr lo kc ks mc ms n index : Nat} {ret : Option FieldType} {As rest : List Value} {Qq : Option Value → va_W → Prop} (C : Cx g p s m args meth c A nL cc own) {b ci q0 nf : Nat} {fs : List Value} {Cn : String} {T : u_T} (hM : Ct l g y (.code y bytes maxL ret) fr lo kc ks ws (.ref b :: As) Qq mc ms) {host : String} (hlink : Cond.methodLinkNest own index y host ∈ NN) (hinst : Cond.instanceMethod y ∈ TT) (hsel : Cond.selects Cn y y ∈ TT) (hini : Cond.initialized y.cls ∈ TT) (hcode : Cond.code y bytes maxL ret ∈ TT) (hy : y.cls ≠ "java/lang/invoke/MethodHandle" ∧ y.cls ≠ "java/lang/invoke/VarHandle") (hlen : (parseMethodDescriptor y.desc).map (fun d => d.parameters.length) = some n) (he : ws[q0]? = some (b, .inr (ci, fs))) (hcl : vwCl[ci]? = some (Cn, T, nf)) (hR : fr + 1 ≤ R.frames ∧ 8 + (maxL + 11) + lo ≤ R.locals) (hf : cells + kc ≤ R.cells ∧ slots + ks ≤ R.slots) (hn : As.length = n) (hd : decode cc pc = .ok (.invokevirtual index, 3)) (hst : st = As.reverse ++ .ref b :: rest) (hW : (rest.map fun v => v.category).sum ≤ 8) (k : ∀ v ws', Qq v ws' → Nw g p l e R s m args below meth c A Q nL ws' (cells + mc) (slots + ms) lv (pc + 3) (v.toList ++ rest)) :
    Nw g p l e R s m args below meth c A Q nL ws cells slots lv pc st := by
  intro H locs ls hP hD hS hl
  obtain ⟨hx, hb, hml, hown, hts, hE, hA, hlk⟩ := id C
  have hsub := ct_sub hD hS hA
  have hK := kback (R := R) (p := p) (e := e) (below := below) (s := s) (args := args) (len := 3) (bytes := bytes) (maxL := maxL) (ret := ret) (hM H.size) ct_blind hR.1 hR.2 (fun w hw a' U hW => by
      rcases List.mem_cons.mp hw with h | h
      · rw [h]; exact TT_at hts hcode a' U hW
      · exact TT_at hts h a' U hW) List.mem_cons_self (fun a' U hW => TT_at hts hini a' U hW)
  refine ct_back (rest := rest) C hP hD hS hl ?_ k
  intro T hT X
  obtain ⟨cellB, hcB, hoB, hclB⟩ := va_recv hE.1 hP hcl he
  obtain ⟨v, vm₁, ⟨U', l2, c2, s2⟩, hW₁, X', ⟨g', mk, t, L, e1, e2, hq, h1, hL, h2, h3⟩, stp⟩ := va_callVN X hx (C := Cn) (bytes := bytes) (maxL := maxL) (ret := ret) hown (va_Nw.use rfl (hE.2.1 _ hlink)) (hts _ hinst) (hts _ hsel) (hts _ hcode) hy hK (by rw [hT]; exact hcB) hoB hclB (g := F0 m pc ls st) rfl (hl.1.trans hml.symm) (argsL := As) (rest := rest) (fun sig h => hn.trans (by rw [h] at hlen; exact (Option.some.inj hlen).symm)) hst (lv_room hW) (by rw [hb]; exact hd)
    (fun vm₁ hW₁ => ⟨hf.1, hf.2, rfl, by show (T.setVm vm₁).heap.size = _; exact congrArg Array.size hT, by show va_P _ _ _ (T.setVm vm₁).heap; rw [show (T.setVm vm₁).heap = H from hT]; exact hP, EO.call hE hS hsub hT hW₁, hD.weaken (fun _ _ _ _ => trivial)⟩)
  dsimp only [Pt.U, Pt.locs, Pt.cells, Pt.slots] at X' e1 e2 h1 h2 h3 stp
  subst h1; subst h2; subst h3
  exact ⟨v, _, t, U', L, hT, X', hL, e1, hq, stp⟩
theorem nw_callS {y : MethodName} {bytes : ByteArray} {maxL fr lo kc ks mc ms n index : Nat} {ret : Option FieldType} {As rest : List Value} {Qq : Option Value → va_W → Prop} (C : Cx g p s m args meth c A nL cc own) (hM : Ct l g y (.code y bytes maxL ret) fr lo kc ks ws As Qq mc ms) (hlink : Cond.methodLink own index y ∈ TT) (hstat : Cond.static y ∈ TT) (hini : Cond.initialized y.cls ∈ TT) (hcode : Cond.code y bytes maxL ret ∈ TT) (hy : y.cls ≠ "java/lang/invoke/MethodHandle" ∧ y.cls ≠ "java/lang/invoke/VarHandle") (hlen : (parseMethodDescriptor y.desc).map (fun d => d.parameters.length) = some n) (hR : fr + 1 ≤ R.frames ∧ 8 + (maxL + 11) + lo ≤ R.locals) (hf : cells + kc ≤ R.cells ∧ slots + ks ≤ R.slots) (hn : As.length = n) (hd : decode cc pc = .ok (.invokestatic index, 3)) (hst : st = As.reverse ++ rest) (hW : (rest.map fun v => v.category).sum ≤ 8) (k : ∀ v ws', Qq v ws' → Nw g p l e R s m args below meth c A Q nL ws' (cells + mc) (slots + ms) lv (pc + 3) (v.toList ++ rest)) :
    Nw g p l e R s m args below meth c A Q nL ws cells slots lv pc st := by
  intro H locs ls hP hD hS hl
  obtain ⟨hx, hb, hml, hown, hts, hE, hA, hlk⟩ := id C
  have hsub := ct_sub hD hS hA
  have hK := kback (R := R) (p := p) (e := e) (below := below) (s := s) (args := args) (len := 3) (bytes := bytes) (maxL := maxL) (ret := ret) (hM H.size) ct_blind hR.1 hR.2 (fun w hw a' U hW => by
      rcases List.mem_cons.mp hw with h | h
      · rw [h]; exact TT_at hts hcode a' U hW
      · exact TT_at hts h a' U hW) List.mem_cons_self (fun a' U hW => TT_at hts hini a' U hW)
  refine ct_back (rest := rest) C hP hD hS hl ?_ k
  intro T hT X
  obtain ⟨v, vm₁, ⟨U', l2, c2, s2⟩, hW₁, X', ⟨g', mk, t, L, e1, e2, hq, h1, hL, h2, h3⟩, stp⟩ := callS X hx (bytes := bytes) (maxL := maxL) (ret := ret) hown (hts _ hlink) (hts _ hstat) (hts _ hini) (hts _ hcode) hy hK (g := F0 m pc ls st) rfl (hl.1.trans hml.symm) (argsL := As) (rest := rest) (fun sig h => hn.trans (by rw [h] at hlen; exact (Option.some.inj hlen).symm)) hst (lv_room hW) (by rw [hb]; exact hd)
    (fun vm₁ hW₁ => ⟨hf.1, hf.2, rfl, by show (T.setVm vm₁).heap.size = _; exact congrArg Array.size hT, by show va_P _ _ _ (T.setVm vm₁).heap; rw [show (T.setVm vm₁).heap = H from hT]; exact hP, EO.call hE hS hsub hT hW₁, hD.weaken (fun _ _ _ _ => trivial)⟩)
  dsimp only [Pt.U, Pt.locs, Pt.cells, Pt.slots] at X' e1 e2 h1 h2 h3 stp
  subst h1; subst h2; subst h3
  exact ⟨v, _, t, U', L, hT, X', hL, e1, hq, stp⟩
theorem nw_callSN {y : MethodName} {bytes : ByteArray} {maxL fr lo kc ks mc ms n index : Nat} {ret : Option FieldType} {As rest : List Value} {Qq : Option Value → va_W → Prop} (C : Cx g p s m args meth c A nL cc own) (hM : Ct l g y (.code y bytes maxL ret) fr lo kc ks ws As Qq mc ms) {host : String} (hlink : Cond.methodLinkNest own index y host ∈ NN) (hstat : Cond.static y ∈ TT) (hini : Cond.initialized y.cls ∈ TT) (hcode : Cond.code y bytes maxL ret ∈ TT) (hy : y.cls ≠ "java/lang/invoke/MethodHandle" ∧ y.cls ≠ "java/lang/invoke/VarHandle") (hlen : (parseMethodDescriptor y.desc).map (fun d => d.parameters.length) = some n) (hR : fr + 1 ≤ R.frames ∧ 8 + (maxL + 11) + lo ≤ R.locals) (hf : cells + kc ≤ R.cells ∧ slots + ks ≤ R.slots) (hn : As.length = n) (hd : decode cc pc = .ok (.invokestatic index, 3)) (hst : st = As.reverse ++ rest) (hW : (rest.map fun v => v.category).sum ≤ 8) (k : ∀ v ws', Qq v ws' → Nw g p l e R s m args below meth c A Q nL ws' (cells + mc) (slots + ms) lv (pc + 3) (v.toList ++ rest)) :
    Nw g p l e R s m args below meth c A Q nL ws cells slots lv pc st := by
  intro H locs ls hP hD hS hl
  obtain ⟨hx, hb, hml, hown, hts, hE, hA, hlk⟩ := id C
  have hsub := ct_sub hD hS hA
  have hK := kback (R := R) (p := p) (e := e) (below := below) (s := s) (args := args) (len := 3) (bytes := bytes) (maxL := maxL) (ret := ret) (hM H.size) ct_blind hR.1 hR.2 (fun w hw a' U hW => by
      rcases List.mem_cons.mp hw with h | h
      · rw [h]; exact TT_at hts hcode a' U hW
      · exact TT_at hts h a' U hW) List.mem_cons_self (fun a' U hW => TT_at hts hini a' U hW)
  refine ct_back (rest := rest) C hP hD hS hl ?_ k
  intro T hT X
  obtain ⟨v, vm₁, ⟨U', l2, c2, s2⟩, hW₁, X', ⟨g', mk, t, L, e1, e2, hq, h1, hL, h2, h3⟩, stp⟩ := va_callSN X hx (bytes := bytes) (maxL := maxL) (ret := ret) hown (va_Nw.use rfl (hE.2.1 _ hlink)) (hts _ hstat) (hts _ hini) (hts _ hcode) hy hK (g := F0 m pc ls st) rfl (hl.1.trans hml.symm) (argsL := As) (rest := rest) (fun sig h => hn.trans (by rw [h] at hlen; exact (Option.some.inj hlen).symm)) hst (lv_room hW) (by rw [hb]; exact hd)
    (fun vm₁ hW₁ => ⟨hf.1, hf.2, rfl, by show (T.setVm vm₁).heap.size = _; exact congrArg Array.size hT, by show va_P _ _ _ (T.setVm vm₁).heap; rw [show (T.setVm vm₁).heap = H from hT]; exact hP, EO.call hE hS hsub hT hW₁, hD.weaken (fun _ _ _ _ => trivial)⟩)
  dsimp only [Pt.U, Pt.locs, Pt.cells, Pt.slots] at X' e1 e2 h1 h2 h3 stp
  subst h1; subst h2; subst h3
  exact ⟨v, _, t, U', L, hT, X', hL, e1, hq, stp⟩
end NWC
