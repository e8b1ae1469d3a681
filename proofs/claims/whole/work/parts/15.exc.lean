section KBX
variable {l : Launch} {R : Room} {p : Program} {e : Env} {below : List Frame} {s : State} {sargs : Array Value} {y : MethodName} {len W9 : Nat}
theorem vx_kback {ws : List Cond} {rm : Room} {Pc : Array Value → State → Prop} {Qc : Array Value → State → Outcome → State → Prop} {XC : String → State → State → Prop} {mc ms : Nat} {free : Addr → Prop} {bytes : ByteArray} {maxL : Nat} {ret : Option FieldType}
    (hM : vx_Met l y ws rm Pc Qc XC mc ms free) (hblind : FrameBlind Pc) 
    (hframes : rm.frames + 1 ≤ R.frames) (hlocals : W9 + (maxL + 11) + rm.locals ≤ R.locals)
    (hws : ∀ w ∈ ws, ∀ a' U, s.WarmedH U.vm → w.before a' U = true) (hcode : Cond.code y bytes maxL ret ∈ ws) (hinit : ∀ a' U, s.WarmedH U.vm → (Cond.initialized y.cls).before a' U = true) :
    vx_Back l R p e below s sargs y len W9 (fun A a => A.cells + rm.cells ≤ R.cells ∧ A.slots + rm.slots ≤ R.slots ∧ Pc a A.U) (PostOf Qc mc ms free) (vx_Post XC mc ms free) := by
  intro m meth c A g ig mk a X hg hsize hdg hW hn hp
  have h1 : (headSpec ws rm).pre.before a A.U = true := atoms_intro fun w hw => hws w hw _ _ X.warmed
  have h2 : (Cond.code y bytes maxL ret).before a A.U = true := hws _ hcode _ _ X.warmed
  have h3 : (Cond.initialized y.cls).before a A.U = true := hinit _ _ X.warmed
  have h4 : A.cells + (headSpec ws rm).room.cells ≤ R.cells := hp.1
  have h5 : A.slots + (headSpec ws rm).room.slots ≤ R.slots := hp.2.1
  have hPc : Pc a (A.U.calling g mk a) := hblind _ _ _ _ hp.2.2
  obtain ⟨U, Ls, c0, s0⟩ := A
  dsimp only [Pt.U, Pt.locs, Pt.cells, Pt.slots] at h1 h2 h3 h4 h5 X hn hPc ⊢
  obtain ⟨methY, cY, hmY, hcY, -, hlY, -, -, -, -⟩ := Cond.code_spec hn h2
  obtain ⟨kY, hkY, -⟩ := className_of_methodNamed hn
  have hinitY : kY.init = .initialized := Cond.initialized_spec (findClass_of_methodNamed hn) hkY h3
  have h : At U g.method c below := by rw [hg]; exact X.here
  have hlocals9 : W9 + (maxL + 11) + (headSpec ws rm).room.locals ≤ R.locals := hlocals
  have happ : (headSpec ws rm).appliesLoose y e.platform (U.calling g mk a) = true :=
    Spec.appliesLoose_calling (g := g) h hdg hn hkY hinitY
      (X.room_calling (g := g) (R' := (headSpec ws rm).room) hsize hmY hcY hframes (by rw [hlY]; omega) h4 h5) h1
  obtain ⟨mid, hmid⟩ := h.above
  have hfr : (U.setTop g).frames = (.java g :: mid) ++ below := by rw [State.frames_setTop' g h.top, hmid]; rfl
  obtain ⟨o, s₂, hsteps, -, hend, hq⟩ := Steps.callFree hM p X.admits X.cas X.clock (acts := []) hfr happ hPc trivial
  have hq' : vx_Q Qc XC mc ms free a (U.calling g mk a) o s₂ := hq
  rw [State.frames_setTop' g h.top] at hend
  obtain ⟨g₀, hg0⟩ := Option.isSome_iff_exists.mp h.top
  obtain ⟨r, hr⟩ := State.topJava?_eq_some.mp hg0
  have hr' : (({ U with heap := s₂.heap, slotsUsed := s₂.slotsUsed } : State).setVm s₂.vm).frames = .java g₀ :: r := hr
  rcases hq' with ⟨hqc, L, hfe, hL⟩ | ⟨q, rfl, E, ce, L, hx, hce, hcv, hcl, hW₂, hsm, hL⟩
  · obtain ⟨⟨v, rfl⟩, hW₂, e2, q2, q3, q4, q5, q6⟩ := id hfe
    have e3 : s₂ = ({ (U.calling g mk a).setFrames s₂.frames with heap := s₂.heap, slotsUsed := s₂.slotsUsed } : State).setVm s₂.vm := by
      have : s₂ = ({ s₂ with vm := (U.calling g mk a).vm } : State).setVm s₂.vm := rfl
      rw [e2] at this
      exact this
    obtain ⟨c₂, i₂, len₂, hc₂, hd₂, hf₂⟩ := hend
    have hW' : U.WarmedH s₂.vm := hW₂
    have hcc : c₂ = c := by
      have h1 : s₂.code? g.method = U.code? g.method := by
        rw [State.code?_eq, State.code?_eq, hW'.alike.method?]
      exact Option.some.inj (hc₂.symm.trans (h1.trans h.code))
    subst hcc
    have hlen : len₂ = len := by rw [hdg] at hd₂; cases hd₂; rfl
    subst hlen
    have hs₂ : s₂ = (({ U with heap := s₂.heap, slotsUsed := s₂.slotsUsed } : State).setVm s₂.vm).setTop { g with pc := g.pc + len₂, stack := v.toList ++ g.stack } := by
      refine e3.trans ?_
      rw [hf₂, State.calling_eq h.top, State.setFrames_setFrames, State.setTop_of_frames _ hr', hr]
      rfl
    have hsame : U.sameButNew ({ U with heap := s₂.heap, slotsUsed := s₂.slotsUsed } : State) L mc ms := by
      refine ⟨?_, q2, q3, q4, q5, q6⟩
      obtain ⟨t, ht, -⟩ := State.frames_cons hr
      show ({ U with heap := s₂.heap, slotsUsed := s₂.slotsUsed } : State) = { U.setFrames U.frames with heap := s₂.heap, slotsUsed := s₂.slotsUsed }
      rw [State.setFrames_self ht]
    subst hg
    refine Or.inl ⟨v, ⟨(({ U with heap := s₂.heap, slotsUsed := s₂.slotsUsed } : State).setVm s₂.vm), Ls ++ L, c0 + mc, s0 + ms⟩,
      ⟨X.admits, X.cas, X.clock, X.frames, X.room, X.hears, X.method, X.code, (X.here.setHeapUsed s₂.heap s₂.slotsUsed).setVm hW'.alike, X.tail, State.WarmedH.trans X.warmed hW', X.limits, X.bytes, X.same.trans (hsame.setVm s.vm)⟩,
      ⟨g, mk, s₂, L, rfl, rfl, hqc, rfl, hL, rfl, rfl⟩, ?_⟩
    show Steps p.tables e below _ ((({ U with heap := s₂.heap, slotsUsed := s₂.slotsUsed } : State).setVm s₂.vm).setTop { g with pc := g.pc + len₂, stack := v.toList ++ g.stack })
    rw [← hs₂]
    exact hsteps
  · obtain ⟨e2, q2, q3, q4, q5, q6⟩ := id hsm
    have e3 : s₂ = ({ (U.calling g mk a).setFrames s₂.frames with heap := s₂.heap, slotsUsed := s₂.slotsUsed } : State).setVm s₂.vm := by
      have : s₂ = ({ s₂ with vm := (U.calling g mk a).vm } : State).setVm s₂.vm := rfl
      rw [e2] at this
      exact this
    have hf₂ : s₂.frames = .throwing q :: .java g :: U.frames.tail := hend
    have hW' : U.WarmedH s₂.vm := hW₂
    have hs₂ : s₂ = ((({ U with heap := s₂.heap, slotsUsed := s₂.slotsUsed } : State).setVm s₂.vm).setTop g).pushFrame (.throwing q) := by
      refine e3.trans ?_
      rw [hf₂, State.calling_eq h.top, State.setFrames_setFrames, State.pushFrame, State.frames_setTop _ hr', State.setTop_of_frames _ hr', State.setFrames_setFrames, hr]
      rfl
    have hsame : U.sameButNew ({ U with heap := s₂.heap, slotsUsed := s₂.slotsUsed } : State) L mc ms := by
      refine ⟨?_, q2, q3, q4, q5, q6⟩
      obtain ⟨t, ht, -⟩ := State.frames_cons hr
      show ({ U with heap := s₂.heap, slotsUsed := s₂.slotsUsed } : State) = { U.setFrames U.frames with heap := s₂.heap, slotsUsed := s₂.slotsUsed }
      rw [State.setFrames_self ht]
    subst hg
    refine Or.inr ⟨q, ⟨(({ U with heap := s₂.heap, slotsUsed := s₂.slotsUsed } : State).setVm s₂.vm), Ls ++ L, c0 + mc, s0 + ms⟩,
      ⟨X.admits, X.cas, X.clock, X.frames, X.room, X.hears, X.method, X.code, (X.here.setHeapUsed s₂.heap s₂.slotsUsed).setVm hW'.alike, X.tail, State.WarmedH.trans X.warmed hW', X.limits, X.bytes, X.same.trans (hsame.setVm s.vm)⟩,
      ⟨g, mk, s₂, L, E, ce, rfl, rfl, hx, hce, hcv, hcl, rfl, hL, rfl, rfl⟩, ?_⟩
    show Steps p.tables e below _ (((({ U with heap := s₂.heap, slotsUsed := s₂.slotsUsed } : State).setVm s₂.vm).setTop g).pushFrame (.throwing q))
    rw [← hs₂]
    exact hsteps
end KBX
/-! ===== methods that throw ===== -/
def exN (k : Int32) : String := if k = 1 then "java/lang/IllegalArgumentException" else if k = 2 then "java/lang/IllegalStateException" else "java/lang/IndexOutOfBoundsException"
section NXA
variable {g : EG} {p : Program} {l : Launch} {e : Env} {R : Room} {s : State} {m : MethodId} {args : Array Value} {below : List Frame} {meth : Method} {c : Code} {A : Nat → Prop} {Q : State → Prop} {nL : Nat} {cc : ByteArray} {own : String} {ws : va_W} {cells slots : Nat} {lv lv' : List (Nat × Value)} {pc : Nat} {st : List Value}
def RX (g : EG) (below : List Frame) (args : Array Value) (s : State) (mc ms : Nat) (A : Nat → Prop) (Qq : Option Value → va_W → Prop) (Xq : String → va_W → Prop) : State → Prop :=
  vx_MQ below (fun _ st oc t => (∃ v ws', oc = .returned v ∧ Qq v ws' ∧ va_P (gD g) vwCl ws' t.heap ∧ va_D A ws') ∧ va_F A st t) (fun E st t => (∃ ws', Xq E ws' ∧ va_P (gD g) vwCl ws' t.heap ∧ va_D A ws') ∧ va_F A st t) args s mc ms A
def CtX (l : Launch) (g : EG) (y : MethodName) (cd : Cond) (fr lo kc ks : Nat) (ws : va_W) (av : List Value) (Qq : Option Value → va_W → Prop) (Xq : String → va_W → Prop) (mc ms : Nat) : Prop :=
  ∀ sz : Nat, vx_Met l y (cd :: TT) { frames := fr, cells := kc, slots := ks, locals := lo }
    (va_Pc av (fun U => U.heap.size = sz ∧ va_P (gD g) vwCl ws U.heap ∧ EO g (va_A ws sz) U ∧ va_D (fun _ => True) ws))
    (fun _ st oc t => (∃ v ws', oc = .returned v ∧ Qq v ws' ∧ va_P (gD g) vwCl ws' t.heap ∧ va_D (va_A ws sz) ws') ∧ va_F (va_A ws sz) st t)
    (fun E st t => (∃ ws', Xq E ws' ∧ va_P (gD g) vwCl ws' t.heap ∧ va_D (va_A ws sz) ws') ∧ va_F (va_A ws sz) st t) mc ms (va_A ws sz)
theorem CtX.of {y : MethodName} {cd : Cond} {maxL fr lo kc ks mc ms : Nat} {ret : Option FieldType} {av : List Value} {Qq : Option Value → va_W → Prop} {Xq : String → va_W → Prop} (hcd : cd = .code y cc maxL ret) (hy : plainName y.cls = true) (hlen : (lg_sl av).length ≤ maxL)
    (body : ∀ (p : Program) (e : Env) (s : State) (m : MethodId) (args : Array Value) (below : List Frame) (meth : Method) (c : Code) (A : Nat → Prop), Cx g p s m args meth c A maxL cc y.cls → meth.sig.returnType = ret → (∀ x ∈ c.exceptionTable.toList, False) →
      Nw g p l e { frames := fr, cells := kc, slots := ks, locals := lo } s m args below meth c A (RX g below args s mc ms A Qq Xq) maxL ws 0 0 (lv_args 0 av) 0 []) : CtX l g y cd fr lo kc ks ws av Qq Xq mc ms := by
  intro sz
  subst hcd
  refine vx_ofW (cc := cc) (maxL := maxL) (ret := ret) hy rfl ?_
  intro p e s m args below meth c s₁ B hml hex hv
  obtain ⟨rfl, hsz, hP, hE, hD0⟩ := hv
  have hts := atoms_spec (ws := Cond.code y cc maxL ret :: TT) B.pre
  have hown : s.vm.findClass y.cls = some m.cls := findClass_of_methodNamed B.named
  subst hsz
  have hD := hD0.self (sz := s.heap.size)
  have hl := lv_entry av hlen
  rw [lg_entry_eq]
  exact body p e s m _ below meth c _ ⟨B.exec, B.bytes, hml, hown, fun w h => hts w (List.mem_cons_of_mem _ h), hE, fun q h => Or.inr h, B.notSynchronized⟩ B.returns hex s.heap [] _ hP hD va_S.rf hl
theorem xc_keep {Xq : String → va_W → Prop} {E : String} {H : Heap} {locs : List Loc} {t : State} (hP : va_P (gD g) vwCl ws H) (hD : va_D A ws) (hS : va_S A s.heap H locs) (hq : Xq E ws) (h1 : H.size ≤ t.heap.size) (h2 : ∀ q : Nat, q < H.size → t.heap[q]? = H[q]?) :
    (∃ ws', Xq E ws' ∧ va_P (gD g) vwCl ws' t.heap ∧ va_D A ws') ∧ va_F A s t :=
  ⟨⟨ws, hq, fun k q hk => (hP k q hk).kept (h2 _ (hP k q hk).lt), hD⟩, Nat.le_trans hS.1 h1, fun q q1 q2 => (h2 q (Nat.lt_of_lt_of_le q1 hS.1)).trans (hS.2.1 q q1 q2)⟩
theorem nx_ret {Qq : Option Value → va_W → Prop} {Xq : String → va_W → Prop} {mc ms : Nat} (k : Nw g p l e R s m args below meth c A (RQ g below args s mc ms A Qq) nL ws cells slots lv pc st) : Nw g p l e R s m args below meth c A (RX g below args s mc ms A Qq Xq) nL ws cells slots lv pc st :=
  fun H locs ls hP hD hS hl => vx_ret (k H locs ls hP hD hS hl)
/-- a static callee that throws for sure, and nobody here catches it -/
theorem nx_thrown {y : MethodName} {bytes : ByteArray} {maxL fr lo kc ks mc0 ms0 mc ms n index : Nat} {ret : Option FieldType} {As rest : List Value} {Xq0 Xq : String → va_W → Prop} {Qq : Option Value → va_W → Prop} (C : Cx g p s m args meth c A nL cc own) (hex : ∀ x ∈ c.exceptionTable.toList, False) (hM : CtX l g y (.code y bytes maxL ret) fr lo kc ks ws As (fun _ _ => False) Xq0 mc0 ms0) (hlink : Cond.methodLink own index y ∈ TT) (hk : Ks y bytes maxL ret n) (hR : fr + 1 ≤ R.frames ∧ 8 + (maxL + 11) + lo ≤ R.locals) (hf : cells + kc ≤ R.cells ∧ slots + ks ≤ R.slots) (hn : As.length = n) (hd : decode cc pc = .ok (.invokestatic index, 3)) (hst : st = As.reverse ++ rest) (hW : (rest.map fun v => v.category).sum ≤ 8)
    (hq : ∀ E ws', Xq0 E ws' → Xq E ws') (hc : cells + mc0 ≤ mc) (hs : slots + ms0 ≤ ms) : Nw g p l e R s m args below meth c A (RX g below args s mc ms A Qq Xq) nL ws cells slots lv pc st := by
  intro H locs ls hP hD hS hl
  obtain ⟨hx, hb, hml, hown, hts, hE, hA, hlk⟩ := id C
  have hsub := ct_sub hD hS hA
  have hK := vx_kback (R := R) (p := p) (e := e) (below := below) (s := s) (sargs := args) (len := 3) (W9 := 8) (bytes := bytes) (maxL := maxL) (ret := ret) (hM H.size) ct_blind hR.1 hR.2 (fun w hw a' U hW => by
      rcases List.mem_cons.mp hw with h | h
      · rw [h]; exact TT_at hts hk.2.2.1 a' U hW
      · exact TT_at hts h a' U hW) List.mem_cons_self (fun a' U hW => TT_at hts hk.2.1 a' U hW)
  intro T hT X
  have hlen := hk.2.2.2.2
  rcases vx_callS X hx (bytes := bytes) (maxL := maxL) (ret := ret) hown (hts _ hlink) (hts _ hk.1) (hts _ hk.2.1) (hts _ hk.2.2.1) hk.2.2.2.1 hK (g := F0 m pc ls st) rfl (hl.1.trans hml.symm) (argsL := As) (rest := rest) (fun sig h => hn.trans (by rw [h] at hlen; exact (Option.some.inj hlen).symm)) hst (lv_room hW) (by rw [hb]; exact hd)
    (fun vm₁ hW₁ => ⟨hf.1, hf.2, rfl, by show (T.setVm vm₁).heap.size = _; exact congrArg Array.size hT, by show va_P _ _ _ (T.setVm vm₁).heap; rw [show (T.setVm vm₁).heap = H from hT]; exact hP, EO.call hE hS hsub hT hW₁, hD.weaken (fun _ _ _ _ => trivial)⟩) with ⟨v, vm₁, ⟨U', l2, c2, s2⟩, hW₁, X', ⟨g', mk, t, L, e1, e2, hq0, h1, hL, h2, h3⟩, stp⟩ | ⟨q, vm₁, ⟨U', l2, c2, s2⟩, hW₁, X', ⟨g', mk, t, L, E, ce, e1, e2, hq0, hce, hcv, hcl, h1, hL, h2, h3⟩, stp⟩
  · obtain ⟨⟨_, _, _, hF, _⟩, _⟩ := hq0
    exact absurd hF (fun h => h)
  · dsimp only [Pt.U, Pt.locs, Pt.cells, Pt.slots] at X' e1 e2 h1 h2 h3 stp hcl hq0
    subst h1; subst h2; subst h3
    obtain ⟨⟨ws', hx0, hP1, hD1⟩, hz, hkp⟩ := hq0
    have hz' : H.size ≤ t.heap.size := by have := hz; rwa [show ((T.setVm vm₁).calling g' mk As.toArray).heap = H from hT] at this
    have hkp' : ∀ q : Nat, q < H.size → ¬ va_A ws H.size q → t.heap[q]? = H[q]? := by have := hkp; rwa [show ((T.setVm vm₁).calling g' mk As.toArray).heap = H from hT] at this
    have hcl' : s.vm.findClass E = some ce.cls := vx_cls hW₁ hcl
    have fin := vx_out (p := p) (l := l) (e := e) (R := R) (s := s) (m := m) (args := args) (below := below) (meth := meth) (c := c) (H := U'.heap) (locs := locs ++ L) (cells := cells + mc0) (slots := slots + ms0) (ls := ls) (rest := rest) (pc := pc) (free := A)
      (Qc := fun _ st oc t => (∃ v ws', oc = .returned v ∧ Qq v ws' ∧ va_P (gD g) vwCl ws' t.heap ∧ va_D A ws') ∧ va_F A st t) (XC := fun E st t => (∃ ws', Xq E ws' ∧ va_P (gD g) vwCl ws' t.heap ∧ va_D A ws') ∧ va_F A st t) (q := q) (ce := ce) (E := E) (mc := mc) (ms := ms)
      (fun x hx => absurd (hex x hx) (fun h => h)) hlk (by rw [e1]; exact hce) hcv hcl'
      (fun t1 ht1 _ => ⟨⟨ws', hq E ws' hx0, by rw [ht1, e1]; exact hP1, hD1.weaken (fun _ q _ h => hsub _ h)⟩, by rw [ht1, e1]; exact Nat.le_trans hS.1 hz', fun q0 q1 q2 => by rw [ht1, e1, hkp' q0 (Nat.lt_of_lt_of_le q1 hS.1) (fun z => q2 (hsub q0 z))]; exact hS.2.1 q0 q1 q2⟩)
      (fun z hz => by
        rcases List.mem_append.mp hz with h | h
        · exact hS.2.2 z h
        · exact hsub _ (hL z h)) hc hs
    obtain ⟨t2, a1, b1⟩ := fin U' rfl X'
    exact ⟨t2, stp.trans a1, b1⟩
end NXA
section NXB
variable {g : EG} {p : Program} {l : Launch} {e : Env} {s : State} {m : MethodId} {args : Array Value} {below : List Frame} {meth : Method} {c : Code} {A : Nat → Prop} {nL : Nat} {cc : ByteArray} {own : String} {lv : List (Nat × Value)} {pc : Nat} {st : List Value} {ad am ta : Nat → Nat} {Rr : va_W} {φ0 fr0 lo0 : Nat} {σ : CS}
def QX (g : EG) (ad : Nat → Nat) (Rr : va_W) (φ0 : Nat) (res : (Int32 × Int32) × CS) : Option Value → va_W → Prop := fun v ws' => res.1.1 = 0 ∧ v = some (.int res.1.2) ∧ (∃ ta, ws' = cw g ad ta res.2 ++ Rr) ∧ φ0 ≤ ph res.2.2.2 ∧ ph res.2.2.2 ≤ BB
def XX (g : EG) (ad : Nat → Nat) (Rr : va_W) (φ0 : Nat) (res : (Int32 × Int32) × CS) : String → va_W → Prop := fun E ws' => ¬ res.1.1 = 0 ∧ E = exN res.1.1 ∧ (∃ ta, ws' = cw g ad ta res.2 ++ Rr) ∧ φ0 ≤ ph res.2.2.2 ∧ ph res.2.2.2 ≤ BB
abbrev NX (g : EG) (p : Program) (l : Launch) (e : Env) (s : State) (m : MethodId) (args : Array Value) (below : List Frame) (meth : Method) (c : Code) (A : Nat → Prop) (fr lo nL : Nat) (ad : Nat → Nat) (Rr : va_W) (φ0 : Nat) (res : (Int32 × Int32) × CS) (ta : Nat → Nat) (σ : CS) (lv : List (Nat × Value)) (pc : Nat) (st : List Value) : Prop :=
  Nw g p l e { frames := fr, cells := BB - φ0 + 1, slots := 2 * (BB - φ0) + 6, locals := lo } s m args below meth c A (RX g below args s (ph res.2.2.2 - φ0 + 1) (2 * (ph res.2.2.2 - φ0) + 6) A (QX g ad Rr φ0 res) (XX g ad Rr φ0 res)) nL (cw g ad ta σ ++ Rr) (ph σ.2.2 - φ0) (2 * (ph σ.2.2 - φ0)) lv pc st
abbrev CxI (l : Launch) (g : EG) (y : MethodName) (cd : Cond) (fr lo : Nat) (ad ta : Nat → Nat) (Rr : va_W) (σ : CS) (av : List Value) (res : (Int32 × Int32) × CS) : Prop := CtX l g y cd fr lo (BB - ph σ.2.2 + 1) (2 * (BB - ph σ.2.2) + 6) (cw g ad ta σ ++ Rr) av (QX g ad Rr (ph σ.2.2) res) (XX g ad Rr (ph σ.2.2) res) (ph res.2.2.2 - ph σ.2.2 + 1) (2 * (ph res.2.2.2 - ph σ.2.2) + 6)
theorem nx_iret (C : Cx g p s m args meth c A nL cc own) {res : (Int32 × Int32) × CS} {v : Int32} (hr : meth.sig.returnType = some .int) (hd : decode cc pc = .ok (.ireturn, 1)) (hφ : φ0 ≤ ph σ.2.2) (hφ2 : ph σ.2.2 ≤ BB) (h : some ((0, v), σ) = some res) : NX g p l e s m args below meth c A fr0 lo0 nL ad Rr φ0 res ta σ lv pc [.int v] := by
  cases h
  exact nx_ret (nw_iret C hr hd (Nat.le_succ _) (Nat.le_add_right _ _) ⟨rfl, rfl, ⟨ta, rfl⟩, hφ, hφ2⟩)
theorem nx_zret (C : Cx g p s m args meth c A nL cc own) {res : (Int32 × Int32) × CS} {v : Int32} (hr : meth.sig.returnType = some .boolean) (hv : v = 0 ∨ v = 1) (hd : decode cc pc = .ok (.ireturn, 1)) (hφ : φ0 ≤ ph σ.2.2) (hφ2 : ph σ.2.2 ≤ BB) (h : some ((0, v), σ) = some res) : NX g p l e s m args below meth c A fr0 lo0 nL ad Rr φ0 res ta σ lv pc [.int v] := by
  cases h
  exact nx_ret (nw_zret C hr hv hd (Nat.le_succ _) (Nat.le_add_right _ _) ⟨rfl, rfl, ⟨ta, rfl⟩, hφ, hφ2⟩)
theorem nx_zretg (C : Cx g p s m args meth c A nL cc own) {res : (Int32 × Int32) × CS} {v : Int32} (hr : meth.sig.returnType = some .boolean) (hd : decode cc pc = .ok (.ireturn, 1)) (hφ : φ0 ≤ ph σ.2.2) (hφ2 : ph σ.2.2 ≤ BB) (h : grd (v = 0 ∨ v = 1) (some ((0, v), σ)) = some res) : NX g p l e s m args below meth c A fr0 lo0 nL ad Rr φ0 res ta σ lv pc [.int v] := nx_zret C hr (grd_1 h) hd hφ hφ2 (grd_2 h)
theorem nx_zero {R : Room} {ws : va_W} {Q : State → Prop} (n : Nat) (k : Nw g p l e R s m args below meth c A Q nL ws (n - n) (2 * (n - n)) lv pc st) : Nw g p l e R s m args below meth c A Q nL ws 0 0 lv pc st := nw_zero n k
theorem nx_check {y : MethodName} {bytes : ByteArray} {index : Nat} {code b : Int32} {rest : List Value} {res : (Int32 × Int32) × CS} {a : Option ((Int32 × Int32) × CS)} (C : Cx g p s m args meth c A nL cc own) (hex : ∀ x ∈ c.exceptionTable.toList, False) (h0 : ¬ code = 0)
    (hthr : ∀ ws : va_W, CtX l g y (.code y bytes 1 none) 8 120 1 6 ws [.int 0] (fun _ _ => False) (fun E ws' => E = exN code ∧ ws' = ws) 1 6) (hret : ∀ ws : va_W, ¬ b = 0 → Ct l g y (.code y bytes 1 none) 0 0 0 0 ws [.int b] (fun v ws' => v = none ∧ ws' = ws) 0 0)
    (hlink : Cond.methodLink own index y ∈ TT) (hk : Ks y bytes 1 none 1) (hR : 9 ≤ fr0 ∧ 140 ≤ lo0) (hd : decode cc pc = .ok (.invokestatic index, 3)) (hW : (rest.map fun v => v.category).sum ≤ 8) (hφ : φ0 ≤ ph σ.2.2) (hφ2 : ph σ.2.2 ≤ BB)
    (h : (if b = 0 then some ((code, 0), σ) else a) = some res) (k : ¬ b = 0 → a = some res → NX g p l e s m args below meth c A fr0 lo0 nL ad Rr φ0 res ta σ lv (pc + 3) rest) : NX g p l e s m args below meth c A fr0 lo0 nL ad Rr φ0 res ta σ lv pc (.int b :: rest) := by
  by_cases hb : b = 0
  · subst hb
    cases if_1 rfl h
    exact nx_thrown (As := [.int 0]) (rest := rest) C hex (hthr _) hlink hk ⟨hR.1, hR.2⟩ ⟨by show _ ≤ BB - φ0 + 1; omega, by show _ ≤ 2 * (BB - φ0) + 6; omega⟩ rfl hd rfl hW (by rintro E ws' ⟨rfl, rfl⟩; exact ⟨h0, rfl, ⟨ta, rfl⟩, hφ, hφ2⟩) (Nat.le_refl _) (Nat.le_refl _)
  · exact nw_callS (As := [.int b]) (rest := rest) C (hret _ hb) hlink hk.1 hk.2.1 hk.2.2.1 hk.2.2.2.1 hk.2.2.2.2 ⟨by show 0 + 1 ≤ fr0; omega, by show 8 + (1 + 11) + 0 ≤ lo0; omega⟩ ⟨by show _ ≤ BB - φ0 + 1; omega, by show _ ≤ 2 * (BB - φ0) + 6; omega⟩ rfl hd rfl hW (by rintro v ws' ⟨rfl, rfl⟩; exact k hb (if_2 hb h))
theorem nx_callVI (C : Cx g p s m args meth c A nL cc own) {X : Type} {Q : State → Prop} {o : Option (Int32 × CS)} {K : Int32 → CS → Option X} {res : X} {y : MethodName} {bytes : ByteArray} {maxL fr lo n index : Nat} {ret : Option FieldType} {As rest : List Value} {b ci q0 nf : Nat} {fs : List Value} {Cn : String} {T : u_T} (h : bnd o K = some res)
    (hM : ∀ (r1 : Int32) (σ1 : CS), o = some (r1, σ1) → CtI l g y (.code y bytes maxL ret) fr lo ad ta Rr σ (.ref b :: As) r1 σ1) (hlink : Cond.methodLink own index y ∈ TT) (hk : Kv y Cn bytes maxL ret n) (he : (cw g ad ta σ ++ Rr)[q0]? = some (b, .inr (ci, fs))) (hcl : vwCl[ci]? = some (Cn, T, nf)) (hR : fr + 1 ≤ fr0 ∧ 8 + (maxL + 11) + lo ≤ lo0) (hn : As.length = n) (hd : decode cc pc = .ok (.invokevirtual index, 3)) (hst : st = As.reverse ++ .ref b :: rest) (hW : (rest.map fun v => v.category).sum ≤ 8) (hφ : φ0 ≤ ph σ.2.2) (hφ2 : ph σ.2.2 ≤ BB)
    (k : ∀ (r1 : Int32) (σ1 : CS) (ta1 : Nat → Nat), K r1 σ1 = some res → φ0 ≤ ph σ1.2.2 → ph σ1.2.2 ≤ BB → Nw g p l e { frames := fr0, cells := BB - φ0 + 1, slots := 2 * (BB - φ0) + 6, locals := lo0 } s m args below meth c A Q nL (cw g ad ta1 σ1 ++ Rr) (ph σ1.2.2 - φ0) (2 * (ph σ1.2.2 - φ0)) lv (pc + 3) (.int r1 :: rest)) :
    Nw g p l e { frames := fr0, cells := BB - φ0 + 1, slots := 2 * (BB - φ0) + 6, locals := lo0 } s m args below meth c A Q nL (cw g ad ta σ ++ Rr) (ph σ.2.2 - φ0) (2 * (ph σ.2.2 - φ0)) lv pc st := by
  obtain ⟨r1, σ1, e1, h1⟩ := bnd_1 h
  refine nw_callV C (hM r1 σ1 e1) hlink hk.1 hk.2.1 hk.2.2.1 hk.2.2.2.1 hk.2.2.2.2.1 hk.2.2.2.2.2 he hcl hR ⟨by show _ ≤ BB - φ0 + 1; omega, by show _ ≤ 2 * (BB - φ0) + 6; omega⟩ hn hd hst hW ?_
  rintro v ws' ⟨rfl, ⟨ta1, rfl⟩, h3, h4⟩
  have q := k r1 σ1 ta1 h1 (Nat.le_trans hφ h3) h4
  have e2 : ph σ.2.2 - φ0 + (ph σ1.2.2 - ph σ.2.2) = ph σ1.2.2 - φ0 := by omega
  have e3 : 2 * (ph σ.2.2 - φ0) + 2 * (ph σ1.2.2 - ph σ.2.2) = 2 * (ph σ1.2.2 - φ0) := by omega
  rw [e2, e3]
  exact q

theorem nx_callVNI (C : Cx g p s m args meth c A nL cc own) {X : Type} {Q : State → Prop} {o : Option (Int32 × CS)} {K : Int32 → CS → Option X} {res : X} {y : MethodName} {bytes : ByteArray} {maxL fr lo n index : Nat} {ret : Option FieldType} {As rest : List Value} {b ci q0 nf : Nat} {fs : List Value} {Cn : String} {T : u_T} (h : bnd o K = some res)
    (hM : ∀ (r1 : Int32) (σ1 : CS), o = some (r1, σ1) → CtI l g y (.code y bytes maxL ret) fr lo ad ta Rr σ (.ref b :: As) r1 σ1) {host : String} (hlink : Cond.methodLinkNest own index y host ∈ NN) (hk : Kv y Cn bytes maxL ret n) (he : (cw g ad ta σ ++ Rr)[q0]? = some (b, .inr (ci, fs))) (hcl : vwCl[ci]? = some (Cn, T, nf)) (hR : fr + 1 ≤ fr0 ∧ 8 + (maxL + 11) + lo ≤ lo0) (hn : As.length = n) (hd : decode cc pc = .ok (.invokevirtual index, 3)) (hst : st = As.reverse ++ .ref b :: rest) (hW : (rest.map fun v => v.category).sum ≤ 8) (hφ : φ0 ≤ ph σ.2.2) (hφ2 : ph σ.2.2 ≤ BB)
    (k : ∀ (r1 : Int32) (σ1 : CS) (ta1 : Nat → Nat), K r1 σ1 = some res → φ0 ≤ ph σ1.2.2 → ph σ1.2.2 ≤ BB → Nw g p l e { frames := fr0, cells := BB - φ0 + 1, slots := 2 * (BB - φ0) + 6, locals := lo0 } s m args below meth c A Q nL (cw g ad ta1 σ1 ++ Rr) (ph σ1.2.2 - φ0) (2 * (ph σ1.2.2 - φ0)) lv (pc + 3) (.int r1 :: rest)) :
    Nw g p l e { frames := fr0, cells := BB - φ0 + 1, slots := 2 * (BB - φ0) + 6, locals := lo0 } s m args below meth c A Q nL (cw g ad ta σ ++ Rr) (ph σ.2.2 - φ0) (2 * (ph σ.2.2 - φ0)) lv pc st := by
  obtain ⟨r1, σ1, e1, h1⟩ := bnd_1 h
  refine nw_callVN C (hM r1 σ1 e1) hlink hk.1 hk.2.1 hk.2.2.1 hk.2.2.2.1 hk.2.2.2.2.1 hk.2.2.2.2.2 he hcl hR ⟨by show _ ≤ BB - φ0 + 1; omega, by show _ ≤ 2 * (BB - φ0) + 6; omega⟩ hn hd hst hW ?_
  rintro v ws' ⟨rfl, ⟨ta1, rfl⟩, h3, h4⟩
  have q := k r1 σ1 ta1 h1 (Nat.le_trans hφ h3) h4
  have e2 : ph σ.2.2 - φ0 + (ph σ1.2.2 - ph σ.2.2) = ph σ1.2.2 - φ0 := by omega
  have e3 : 2 * (ph σ.2.2 - φ0) + 2 * (ph σ1.2.2 - ph σ.2.2) = 2 * (ph σ1.2.2 - φ0) := by omega
  rw [e2, e3]
  exact q

theorem nx_callSI (C : Cx g p s m args meth c A nL cc own) {X : Type} {Q : State → Prop} {o : Option (Int32 × CS)} {K : Int32 → CS → Option X} {res : X} {y : MethodName} {bytes : ByteArray} {maxL fr lo n index : Nat} {ret : Option FieldType} {As rest : List Value} (h : bnd o K = some res)
    (hM : ∀ (r1 : Int32) (σ1 : CS), o = some (r1, σ1) → CtI l g y (.code y bytes maxL ret) fr lo ad ta Rr σ As r1 σ1) (hlink : Cond.methodLink own index y ∈ TT) (hk : Ks y bytes maxL ret n)  (hR : fr + 1 ≤ fr0 ∧ 8 + (maxL + 11) + lo ≤ lo0) (hn : As.length = n) (hd : decode cc pc = .ok (.invokestatic index, 3)) (hst : st = As.reverse ++ rest) (hW : (rest.map fun v => v.category).sum ≤ 8) (hφ : φ0 ≤ ph σ.2.2) (hφ2 : ph σ.2.2 ≤ BB)
    (k : ∀ (r1 : Int32) (σ1 : CS) (ta1 : Nat → Nat), K r1 σ1 = some res → φ0 ≤ ph σ1.2.2 → ph σ1.2.2 ≤ BB → Nw g p l e { frames := fr0, cells := BB - φ0 + 1, slots := 2 * (BB - φ0) + 6, locals := lo0 } s m args below meth c A Q nL (cw g ad ta1 σ1 ++ Rr) (ph σ1.2.2 - φ0) (2 * (ph σ1.2.2 - φ0)) lv (pc + 3) (.int r1 :: rest)) :
    Nw g p l e { frames := fr0, cells := BB - φ0 + 1, slots := 2 * (BB - φ0) + 6, locals := lo0 } s m args below meth c A Q nL (cw g ad ta σ ++ Rr) (ph σ.2.2 - φ0) (2 * (ph σ.2.2 - φ0)) lv pc st := by
  obtain ⟨r1, σ1, e1, h1⟩ := bnd_1 h
  refine nw_callS C (hM r1 σ1 e1) hlink hk.1 hk.2.1 hk.2.2.1 hk.2.2.2.1 hk.2.2.2.2 hR ⟨by show _ ≤ BB - φ0 + 1; omega, by show _ ≤ 2 * (BB - φ0) + 6; omega⟩ hn hd hst hW ?_
  rintro v ws' ⟨rfl, ⟨ta1, rfl⟩, h3, h4⟩
  have q := k r1 σ1 ta1 h1 (Nat.le_trans hφ h3) h4
  have e2 : ph σ.2.2 - φ0 + (ph σ1.2.2 - ph σ.2.2) = ph σ1.2.2 - φ0 := by omega
  have e3 : 2 * (ph σ.2.2 - φ0) + 2 * (ph σ1.2.2 - ph σ.2.2) = 2 * (ph σ1.2.2 - φ0) := by omega
  rw [e2, e3]
  exact q

theorem nx_callSNI (C : Cx g p s m args meth c A nL cc own) {X : Type} {Q : State → Prop} {o : Option (Int32 × CS)} {K : Int32 → CS → Option X} {res : X} {y : MethodName} {bytes : ByteArray} {maxL fr lo n index : Nat} {ret : Option FieldType} {As rest : List Value} (h : bnd o K = some res)
    (hM : ∀ (r1 : Int32) (σ1 : CS), o = some (r1, σ1) → CtI l g y (.code y bytes maxL ret) fr lo ad ta Rr σ As r1 σ1) {host : String} (hlink : Cond.methodLinkNest own index y host ∈ NN) (hk : Ks y bytes maxL ret n)  (hR : fr + 1 ≤ fr0 ∧ 8 + (maxL + 11) + lo ≤ lo0) (hn : As.length = n) (hd : decode cc pc = .ok (.invokestatic index, 3)) (hst : st = As.reverse ++ rest) (hW : (rest.map fun v => v.category).sum ≤ 8) (hφ : φ0 ≤ ph σ.2.2) (hφ2 : ph σ.2.2 ≤ BB)
    (k : ∀ (r1 : Int32) (σ1 : CS) (ta1 : Nat → Nat), K r1 σ1 = some res → φ0 ≤ ph σ1.2.2 → ph σ1.2.2 ≤ BB → Nw g p l e { frames := fr0, cells := BB - φ0 + 1, slots := 2 * (BB - φ0) + 6, locals := lo0 } s m args below meth c A Q nL (cw g ad ta1 σ1 ++ Rr) (ph σ1.2.2 - φ0) (2 * (ph σ1.2.2 - φ0)) lv (pc + 3) (.int r1 :: rest)) :
    Nw g p l e { frames := fr0, cells := BB - φ0 + 1, slots := 2 * (BB - φ0) + 6, locals := lo0 } s m args below meth c A Q nL (cw g ad ta σ ++ Rr) (ph σ.2.2 - φ0) (2 * (ph σ.2.2 - φ0)) lv pc st := by
  obtain ⟨r1, σ1, e1, h1⟩ := bnd_1 h
  refine nw_callSN C (hM r1 σ1 e1) hlink hk.1 hk.2.1 hk.2.2.1 hk.2.2.2.1 hk.2.2.2.2 hR ⟨by show _ ≤ BB - φ0 + 1; omega, by show _ ≤ 2 * (BB - φ0) + 6; omega⟩ hn hd hst hW ?_
  rintro v ws' ⟨rfl, ⟨ta1, rfl⟩, h3, h4⟩
  have q := k r1 σ1 ta1 h1 (Nat.le_trans hφ h3) h4
  have e2 : ph σ.2.2 - φ0 + (ph σ1.2.2 - ph σ.2.2) = ph σ1.2.2 - φ0 := by omega
  have e3 : 2 * (ph σ.2.2 - φ0) + 2 * (ph σ1.2.2 - ph σ.2.2) = 2 * (ph σ1.2.2 - φ0) := by omega
  rw [e2, e3]
  exact q

theorem nx_callVV (C : Cx g p s m args meth c A nL cc own) {X : Type} {Q : State → Prop} {o : Option (Int32 × CS)} {K : Int32 → CS → Option X} {res : X} {y : MethodName} {bytes : ByteArray} {maxL fr lo n index : Nat} {ret : Option FieldType} {As rest : List Value} {b ci q0 nf : Nat} {fs : List Value} {Cn : String} {T : u_T} (h : bnd o K = some res)
    (hM : ∀ (r1 : Int32) (σ1 : CS), o = some (r1, σ1) → CtV l g y (.code y bytes maxL ret) fr lo ad ta Rr σ (.ref b :: As) r1 σ1) (hlink : Cond.methodLink own index y ∈ TT) (hk : Kv y Cn bytes maxL ret n) (he : (cw g ad ta σ ++ Rr)[q0]? = some (b, .inr (ci, fs))) (hcl : vwCl[ci]? = some (Cn, T, nf)) (hR : fr + 1 ≤ fr0 ∧ 8 + (maxL + 11) + lo ≤ lo0) (hn : As.length = n) (hd : decode cc pc = .ok (.invokevirtual index, 3)) (hst : st = As.reverse ++ .ref b :: rest) (hW : (rest.map fun v => v.category).sum ≤ 8) (hφ : φ0 ≤ ph σ.2.2) (hφ2 : ph σ.2.2 ≤ BB)
    (k : ∀ (r1 : Int32) (σ1 : CS) (ta1 : Nat → Nat), K r1 σ1 = some res → φ0 ≤ ph σ1.2.2 → ph σ1.2.2 ≤ BB → Nw g p l e { frames := fr0, cells := BB - φ0 + 1, slots := 2 * (BB - φ0) + 6, locals := lo0 } s m args below meth c A Q nL (cw g ad ta1 σ1 ++ Rr) (ph σ1.2.2 - φ0) (2 * (ph σ1.2.2 - φ0)) lv (pc + 3) (rest)) :
    Nw g p l e { frames := fr0, cells := BB - φ0 + 1, slots := 2 * (BB - φ0) + 6, locals := lo0 } s m args below meth c A Q nL (cw g ad ta σ ++ Rr) (ph σ.2.2 - φ0) (2 * (ph σ.2.2 - φ0)) lv pc st := by
  obtain ⟨r1, σ1, e1, h1⟩ := bnd_1 h
  refine nw_callV C (hM r1 σ1 e1) hlink hk.1 hk.2.1 hk.2.2.1 hk.2.2.2.1 hk.2.2.2.2.1 hk.2.2.2.2.2 he hcl hR ⟨by show _ ≤ BB - φ0 + 1; omega, by show _ ≤ 2 * (BB - φ0) + 6; omega⟩ hn hd hst hW ?_
  rintro v ws' ⟨rfl, ⟨ta1, rfl⟩, h3, h4⟩
  have q := k r1 σ1 ta1 h1 (Nat.le_trans hφ h3) h4
  have e2 : ph σ.2.2 - φ0 + (ph σ1.2.2 - ph σ.2.2) = ph σ1.2.2 - φ0 := by omega
  have e3 : 2 * (ph σ.2.2 - φ0) + 2 * (ph σ1.2.2 - ph σ.2.2) = 2 * (ph σ1.2.2 - φ0) := by omega
  rw [e2, e3]
  exact q

theorem nx_callVNV (C : Cx g p s m args meth c A nL cc own) {X : Type} {Q : State → Prop} {o : Option (Int32 × CS)} {K : Int32 → CS → Option X} {res : X} {y : MethodName} {bytes : ByteArray} {maxL fr lo n index : Nat} {ret : Option FieldType} {As rest : List Value} {b ci q0 nf : Nat} {fs : List Value} {Cn : String} {T : u_T} (h : bnd o K = some res)
    (hM : ∀ (r1 : Int32) (σ1 : CS), o = some (r1, σ1) → CtV l g y (.code y bytes maxL ret) fr lo ad ta Rr σ (.ref b :: As) r1 σ1) {host : String} (hlink : Cond.methodLinkNest own index y host ∈ NN) (hk : Kv y Cn bytes maxL ret n) (he : (cw g ad ta σ ++ Rr)[q0]? = some (b, .inr (ci, fs))) (hcl : vwCl[ci]? = some (Cn, T, nf)) (hR : fr + 1 ≤ fr0 ∧ 8 + (maxL + 11) + lo ≤ lo0) (hn : As.length = n) (hd : decode cc pc = .ok (.invokevirtual index, 3)) (hst : st = As.reverse ++ .ref b :: rest) (hW : (rest.map fun v => v.category).sum ≤ 8) (hφ : φ0 ≤ ph σ.2.2) (hφ2 : ph σ.2.2 ≤ BB)
    (k : ∀ (r1 : Int32) (σ1 : CS) (ta1 : Nat → Nat), K r1 σ1 = some res → φ0 ≤ ph σ1.2.2 → ph σ1.2.2 ≤ BB → Nw g p l e { frames := fr0, cells := BB - φ0 + 1, slots := 2 * (BB - φ0) + 6, locals := lo0 } s m args below meth c A Q nL (cw g ad ta1 σ1 ++ Rr) (ph σ1.2.2 - φ0) (2 * (ph σ1.2.2 - φ0)) lv (pc + 3) (rest)) :
    Nw g p l e { frames := fr0, cells := BB - φ0 + 1, slots := 2 * (BB - φ0) + 6, locals := lo0 } s m args below meth c A Q nL (cw g ad ta σ ++ Rr) (ph σ.2.2 - φ0) (2 * (ph σ.2.2 - φ0)) lv pc st := by
  obtain ⟨r1, σ1, e1, h1⟩ := bnd_1 h
  refine nw_callVN C (hM r1 σ1 e1) hlink hk.1 hk.2.1 hk.2.2.1 hk.2.2.2.1 hk.2.2.2.2.1 hk.2.2.2.2.2 he hcl hR ⟨by show _ ≤ BB - φ0 + 1; omega, by show _ ≤ 2 * (BB - φ0) + 6; omega⟩ hn hd hst hW ?_
  rintro v ws' ⟨rfl, ⟨ta1, rfl⟩, h3, h4⟩
  have q := k r1 σ1 ta1 h1 (Nat.le_trans hφ h3) h4
  have e2 : ph σ.2.2 - φ0 + (ph σ1.2.2 - ph σ.2.2) = ph σ1.2.2 - φ0 := by omega
  have e3 : 2 * (ph σ.2.2 - φ0) + 2 * (ph σ1.2.2 - ph σ.2.2) = 2 * (ph σ1.2.2 - φ0) := by omega
  rw [e2, e3]
  exact q

theorem nx_callSV (C : Cx g p s m args meth c A nL cc own) {X : Type} {Q : State → Prop} {o : Option (Int32 × CS)} {K : Int32 → CS → Option X} {res : X} {y : MethodName} {bytes : ByteArray} {maxL fr lo n index : Nat} {ret : Option FieldType} {As rest : List Value} (h : bnd o K = some res)
    (hM : ∀ (r1 : Int32) (σ1 : CS), o = some (r1, σ1) → CtV l g y (.code y bytes maxL ret) fr lo ad ta Rr σ As r1 σ1) (hlink : Cond.methodLink own index y ∈ TT) (hk : Ks y bytes maxL ret n)  (hR : fr + 1 ≤ fr0 ∧ 8 + (maxL + 11) + lo ≤ lo0) (hn : As.length = n) (hd : decode cc pc = .ok (.invokestatic index, 3)) (hst : st = As.reverse ++ rest) (hW : (rest.map fun v => v.category).sum ≤ 8) (hφ : φ0 ≤ ph σ.2.2) (hφ2 : ph σ.2.2 ≤ BB)
    (k : ∀ (r1 : Int32) (σ1 : CS) (ta1 : Nat → Nat), K r1 σ1 = some res → φ0 ≤ ph σ1.2.2 → ph σ1.2.2 ≤ BB → Nw g p l e { frames := fr0, cells := BB - φ0 + 1, slots := 2 * (BB - φ0) + 6, locals := lo0 } s m args below meth c A Q nL (cw g ad ta1 σ1 ++ Rr) (ph σ1.2.2 - φ0) (2 * (ph σ1.2.2 - φ0)) lv (pc + 3) (rest)) :
    Nw g p l e { frames := fr0, cells := BB - φ0 + 1, slots := 2 * (BB - φ0) + 6, locals := lo0 } s m args below meth c A Q nL (cw g ad ta σ ++ Rr) (ph σ.2.2 - φ0) (2 * (ph σ.2.2 - φ0)) lv pc st := by
  obtain ⟨r1, σ1, e1, h1⟩ := bnd_1 h
  refine nw_callS C (hM r1 σ1 e1) hlink hk.1 hk.2.1 hk.2.2.1 hk.2.2.2.1 hk.2.2.2.2 hR ⟨by show _ ≤ BB - φ0 + 1; omega, by show _ ≤ 2 * (BB - φ0) + 6; omega⟩ hn hd hst hW ?_
  rintro v ws' ⟨rfl, ⟨ta1, rfl⟩, h3, h4⟩
  have q := k r1 σ1 ta1 h1 (Nat.le_trans hφ h3) h4
  have e2 : ph σ.2.2 - φ0 + (ph σ1.2.2 - ph σ.2.2) = ph σ1.2.2 - φ0 := by omega
  have e3 : 2 * (ph σ.2.2 - φ0) + 2 * (ph σ1.2.2 - ph σ.2.2) = 2 * (ph σ1.2.2 - φ0) := by omega
  rw [e2, e3]
  exact q

theorem nx_callSNV (C : Cx g p s m args meth c A nL cc own) {X : Type} {Q : State → Prop} {o : Option (Int32 × CS)} {K : Int32 → CS → Option X} {res : X} {y : MethodName} {bytes : ByteArray} {maxL fr lo n index : Nat} {ret : Option FieldType} {As rest : List Value} (h : bnd o K = some res)
    (hM : ∀ (r1 : Int32) (σ1 : CS), o = some (r1, σ1) → CtV l g y (.code y bytes maxL ret) fr lo ad ta Rr σ As r1 σ1) {host : String} (hlink : Cond.methodLinkNest own index y host ∈ NN) (hk : Ks y bytes maxL ret n)  (hR : fr + 1 ≤ fr0 ∧ 8 + (maxL + 11) + lo ≤ lo0) (hn : As.length = n) (hd : decode cc pc = .ok (.invokestatic index, 3)) (hst : st = As.reverse ++ rest) (hW : (rest.map fun v => v.category).sum ≤ 8) (hφ : φ0 ≤ ph σ.2.2) (hφ2 : ph σ.2.2 ≤ BB)
    (k : ∀ (r1 : Int32) (σ1 : CS) (ta1 : Nat → Nat), K r1 σ1 = some res → φ0 ≤ ph σ1.2.2 → ph σ1.2.2 ≤ BB → Nw g p l e { frames := fr0, cells := BB - φ0 + 1, slots := 2 * (BB - φ0) + 6, locals := lo0 } s m args below meth c A Q nL (cw g ad ta1 σ1 ++ Rr) (ph σ1.2.2 - φ0) (2 * (ph σ1.2.2 - φ0)) lv (pc + 3) (rest)) :
    Nw g p l e { frames := fr0, cells := BB - φ0 + 1, slots := 2 * (BB - φ0) + 6, locals := lo0 } s m args below meth c A Q nL (cw g ad ta σ ++ Rr) (ph σ.2.2 - φ0) (2 * (ph σ.2.2 - φ0)) lv pc st := by
  obtain ⟨r1, σ1, e1, h1⟩ := bnd_1 h
  refine nw_callSN C (hM r1 σ1 e1) hlink hk.1 hk.2.1 hk.2.2.1 hk.2.2.2.1 hk.2.2.2.2 hR ⟨by show _ ≤ BB - φ0 + 1; omega, by show _ ≤ 2 * (BB - φ0) + 6; omega⟩ hn hd hst hW ?_
  rintro v ws' ⟨rfl, ⟨ta1, rfl⟩, h3, h4⟩
  have q := k r1 σ1 ta1 h1 (Nat.le_trans hφ h3) h4
  have e2 : ph σ.2.2 - φ0 + (ph σ1.2.2 - ph σ.2.2) = ph σ1.2.2 - φ0 := by omega
  have e3 : 2 * (ph σ.2.2 - φ0) + 2 * (ph σ1.2.2 - ph σ.2.2) = 2 * (ph σ1.2.2 - φ0) := by omega
  rw [e2, e3]
  exact q
end NXB
theorem dX11_checkArgument_0 : decode cX11_checkArgument 0 = .ok (.iload_n 0, 1) := by decide +kernel
theorem dX11_checkArgument_1 : decode cX11_checkArgument 1 = .ok (.ifCond .ne 14, 3) := by decide +kernel
theorem dX11_checkArgument_4 : decode cX11_checkArgument 4 = .ok (.new 320, 3) := by decide +kernel
theorem dX11_checkArgument_7 : decode cX11_checkArgument 7 = .ok (.dup, 1) := by decide +kernel
theorem dX11_checkArgument_8 : decode cX11_checkArgument 8 = .ok (.ldc_w 322, 3) := by decide +kernel
theorem dX11_checkArgument_11 : decode cX11_checkArgument 11 = .ok (.invokespecial 324, 3) := by decide +kernel
theorem dX11_checkArgument_14 : decode cX11_checkArgument 14 = .ok (.athrow, 1) := by decide +kernel
theorem dX11_checkArgument_15 : decode cX11_checkArgument 15 = .ok (.return_, 1) := by decide +kernel
theorem at_checkArgument : ∀ w ∈ vx_atS "ForestCourts" 324 "java/lang/IllegalArgumentException" ["java/lang/RuntimeException", "java/lang/Exception"], w ∈ TT ∨ (w ∈ NN ∧ isN w = true) := mem_by2 _ [139, 703, 712, 716, 719, 721, 704, 705, 156, 157, 706, 711, 717, 737, 693, 738, 695, 739, 697, 707, 709, 699, 733, 734, 736, 699, 724, 725, 726, 727, 685, 727, 728, 729, 730, 687, 730, 731, 732, 733, 689, 723, 682, 683, 690, 691, 692, 694, 696, 698, 702, 701, 700] (by decide +kernel) (by decide +kernel)
set_option maxHeartbeats 4000000 in
theorem ct_checkArgument {l : Launch} {g : EG} {ws : va_W} (hl : l.stackTraces = false) : CtX l g yX11_checkArgument (.code yX11_checkArgument cX11_checkArgument 1 none) 8 120 1 6 ws [.int 0] (fun _ _ => False) (fun E ws' => E = exN 1 ∧ ws' = ws) 1 6 := by
  refine CtX.of rfl (by decide) (Nat.le_of_ble_eq_true rfl) ?_
  intro p e s m args below meth c A C hr hex
  have h : (if (0 : Int32) = 0 then some 1 else none) = some 1 := rfl
  refine nw_iload_n (i := 0) C dX11_checkArgument_0 rfl 0 rfl ?_
  refine nw_if_ne (tgt := 15) C dX11_checkArgument_1 (by decide) h (fun _ h => ?_) (fun _ h => by cases h)
  intro H locs ls hP hD hS hl2
  have hE := C.2.2.2.2.2.1
  exact vx_throwSW (own := "ForestCourts") (cls := "java/lang/IllegalArgumentException") (names := ["java/lang/RuntimeException", "java/lang/Exception"]) (sa := gK g 0) C.1 C.2.1 hl C.2.2.2.1 (by decide) (by decide) (C.2.2.2.2.1 _ tw_681) (C.2.2.2.2.1 _ tw_142) (hE.2.2.2.1 0 (by decide)) (fun w hw => NT_use C.2.2.2.2.1 hE.2.1 (at_checkArgument w hw)) (by decide +kernel) hE.2.2.2.2.2.2.1 hE.2.2.2.2.2.2.2.1 hS (hl2.1.trans C.2.2.1.symm) dX11_checkArgument_4 dX11_checkArgument_7 dX11_checkArgument_8 dX11_checkArgument_11 dX11_checkArgument_14 (fun x hx => absurd (hex x hx) (fun h => h)) (Nat.le_of_ble_eq_true rfl) (Nat.le_of_ble_eq_true rfl) (Nat.le_of_ble_eq_true rfl) (Nat.le_of_ble_eq_true rfl) C.2.2.2.2.2.2.2 (fun t hv h1 h2 => xc_keep (Xq := fun E ws' => E = exN 1 ∧ ws' = ws) (E := "java/lang/IllegalArgumentException") hP hD hS ⟨rfl, rfl⟩ h1 h2) hS.2.2 (Nat.le_of_ble_eq_true rfl) (Nat.le_of_ble_eq_true rfl)
set_option maxHeartbeats 4000000 in
theorem cr_checkArgument {l : Launch} {g : EG} {ws : va_W} {b : Int32} (hb : ¬ b = 0) : Ct l g yX11_checkArgument (.code yX11_checkArgument cX11_checkArgument 1 none) 0 0 0 0 ws [.int b] (fun v ws' => v = none ∧ ws' = ws) 0 0 := by
  refine Ct.of rfl (by decide) (Nat.le_of_ble_eq_true rfl) ?_
  intro p e s m args below meth c A C hr
  have h : (if b = 0 then none else some 1) = some 1 := if_neg hb
  refine nw_iload_n (i := 0) C dX11_checkArgument_0 rfl 0 rfl ?_
  refine nw_if_ne (tgt := 15) C dX11_checkArgument_1 (by decide) h (fun _ h => by cases h) (fun _ h => ?_)
  exact nw_vret C hr dX11_checkArgument_15 (Nat.le_refl _) (Nat.le_refl _) ⟨rfl, rfl⟩
theorem dX11_checkState_0 : decode cX11_checkState 0 = .ok (.iload_n 0, 1) := by decide +kernel
theorem dX11_checkState_1 : decode cX11_checkState 1 = .ok (.ifCond .ne 14, 3) := by decide +kernel
theorem dX11_checkState_4 : decode cX11_checkState 4 = .ok (.new 332, 3) := by decide +kernel
theorem dX11_checkState_7 : decode cX11_checkState 7 = .ok (.dup, 1) := by decide +kernel
theorem dX11_checkState_8 : decode cX11_checkState 8 = .ok (.ldc_w 334, 3) := by decide +kernel
theorem dX11_checkState_11 : decode cX11_checkState 11 = .ok (.invokespecial 336, 3) := by decide +kernel
theorem dX11_checkState_14 : decode cX11_checkState 14 = .ok (.athrow, 1) := by decide +kernel
theorem dX11_checkState_15 : decode cX11_checkState 15 = .ok (.return_, 1) := by decide +kernel
theorem at_checkState : ∀ w ∈ vx_atS "ForestCourts" 336 "java/lang/IllegalStateException" ["java/lang/RuntimeException", "java/lang/Exception"], w ∈ TT ∨ (w ∈ NN ∧ isN w = true) := mem_by2 _ [139, 703, 712, 716, 719, 721, 704, 705, 156, 157, 706, 711, 717, 737, 693, 738, 695, 739, 697, 707, 709, 699, 733, 734, 736, 699, 764, 765, 766, 727, 685, 727, 728, 729, 730, 687, 730, 731, 732, 733, 689, 763, 754, 755, 756, 714, 757, 758, 759, 760, 702, 701, 761] (by decide +kernel) (by decide +kernel)
set_option maxHeartbeats 4000000 in
theorem ct_checkState {l : Launch} {g : EG} {ws : va_W} (hl : l.stackTraces = false) : CtX l g yX11_checkState (.code yX11_checkState cX11_checkState 1 none) 8 120 1 6 ws [.int 0] (fun _ _ => False) (fun E ws' => E = exN 2 ∧ ws' = ws) 1 6 := by
  refine CtX.of rfl (by decide) (Nat.le_of_ble_eq_true rfl) ?_
  intro p e s m args below meth c A C hr hex
  have h : (if (0 : Int32) = 0 then some 1 else none) = some 1 := rfl
  refine nw_iload_n (i := 0) C dX11_checkState_0 rfl 0 rfl ?_
  refine nw_if_ne (tgt := 15) C dX11_checkState_1 (by decide) h (fun _ h => ?_) (fun _ h => by cases h)
  intro H locs ls hP hD hS hl2
  have hE := C.2.2.2.2.2.1
  exact vx_throwSW (own := "ForestCourts") (cls := "java/lang/IllegalStateException") (names := ["java/lang/RuntimeException", "java/lang/Exception"]) (sa := gK g 1) C.1 C.2.1 hl C.2.2.2.1 (by decide) (by decide) (C.2.2.2.2.1 _ tw_753) (C.2.2.2.2.1 _ tw_143) (hE.2.2.2.1 1 (by decide)) (fun w hw => NT_use C.2.2.2.2.1 hE.2.1 (at_checkState w hw)) (by decide +kernel) hE.2.2.2.2.2.2.1 hE.2.2.2.2.2.2.2.1 hS (hl2.1.trans C.2.2.1.symm) dX11_checkState_4 dX11_checkState_7 dX11_checkState_8 dX11_checkState_11 dX11_checkState_14 (fun x hx => absurd (hex x hx) (fun h => h)) (Nat.le_of_ble_eq_true rfl) (Nat.le_of_ble_eq_true rfl) (Nat.le_of_ble_eq_true rfl) (Nat.le_of_ble_eq_true rfl) C.2.2.2.2.2.2.2 (fun t hv h1 h2 => xc_keep (Xq := fun E ws' => E = exN 2 ∧ ws' = ws) (E := "java/lang/IllegalStateException") hP hD hS ⟨rfl, rfl⟩ h1 h2) hS.2.2 (Nat.le_of_ble_eq_true rfl) (Nat.le_of_ble_eq_true rfl)
set_option maxHeartbeats 4000000 in
theorem cr_checkState {l : Launch} {g : EG} {ws : va_W} {b : Int32} (hb : ¬ b = 0) : Ct l g yX11_checkState (.code yX11_checkState cX11_checkState 1 none) 0 0 0 0 ws [.int b] (fun v ws' => v = none ∧ ws' = ws) 0 0 := by
  refine Ct.of rfl (by decide) (Nat.le_of_ble_eq_true rfl) ?_
  intro p e s m args below meth c A C hr
  have h : (if b = 0 then none else some 1) = some 1 := if_neg hb
  refine nw_iload_n (i := 0) C dX11_checkState_0 rfl 0 rfl ?_
  refine nw_if_ne (tgt := 15) C dX11_checkState_1 (by decide) h (fun _ h => by cases h) (fun _ h => ?_)
  exact nw_vret C hr dX11_checkState_15 (Nat.le_refl _) (Nat.le_refl _) ⟨rfl, rfl⟩
theorem dX11_checkIndex_0 : decode cX11_checkIndex 0 = .ok (.iload_n 0, 1) := by decide +kernel
theorem dX11_checkIndex_1 : decode cX11_checkIndex 1 = .ok (.ifCond .ne 14, 3) := by decide +kernel
theorem dX11_checkIndex_4 : decode cX11_checkIndex 4 = .ok (.new 327, 3) := by decide +kernel
theorem dX11_checkIndex_7 : decode cX11_checkIndex 7 = .ok (.dup, 1) := by decide +kernel
theorem dX11_checkIndex_8 : decode cX11_checkIndex 8 = .ok (.ldc_w 329, 3) := by decide +kernel
theorem dX11_checkIndex_11 : decode cX11_checkIndex 11 = .ok (.invokespecial 331, 3) := by decide +kernel
theorem dX11_checkIndex_14 : decode cX11_checkIndex 14 = .ok (.athrow, 1) := by decide +kernel
theorem dX11_checkIndex_15 : decode cX11_checkIndex 15 = .ok (.return_, 1) := by decide +kernel
theorem at_checkIndex : ∀ w ∈ vx_atS "ForestCourts" 331 "java/lang/IndexOutOfBoundsException" ["java/lang/RuntimeException", "java/lang/Exception"], w ∈ TT ∨ (w ∈ NN ∧ isN w = true) := mem_by2 _ [139, 703, 712, 716, 719, 721, 704, 705, 156, 157, 706, 711, 717, 737, 693, 738, 695, 739, 697, 707, 709, 699, 733, 734, 736, 699, 1005, 1006, 1007, 727, 685, 727, 728, 729, 730, 687, 730, 731, 732, 733, 689, 1004, 995, 996, 997, 715, 998, 999, 1000, 1001, 702, 701, 1002] (by decide +kernel) (by decide +kernel)
set_option maxHeartbeats 4000000 in
theorem ct_checkIndex {l : Launch} {g : EG} {ws : va_W} (hl : l.stackTraces = false) : CtX l g yX11_checkIndex (.code yX11_checkIndex cX11_checkIndex 1 none) 8 120 1 6 ws [.int 0] (fun _ _ => False) (fun E ws' => E = exN 3 ∧ ws' = ws) 1 6 := by
  refine CtX.of rfl (by decide) (Nat.le_of_ble_eq_true rfl) ?_
  intro p e s m args below meth c A C hr hex
  have h : (if (0 : Int32) = 0 then some 1 else none) = some 1 := rfl
  refine nw_iload_n (i := 0) C dX11_checkIndex_0 rfl 0 rfl ?_
  refine nw_if_ne (tgt := 15) C dX11_checkIndex_1 (by decide) h (fun _ h => ?_) (fun _ h => by cases h)
  intro H locs ls hP hD hS hl2
  have hE := C.2.2.2.2.2.1
  exact vx_throwSW (own := "ForestCourts") (cls := "java/lang/IndexOutOfBoundsException") (names := ["java/lang/RuntimeException", "java/lang/Exception"]) (sa := gK g 2) C.1 C.2.1 hl C.2.2.2.1 (by decide) (by decide) (C.2.2.2.2.1 _ tw_994) (C.2.2.2.2.1 _ tw_144) (hE.2.2.2.1 2 (by decide)) (fun w hw => NT_use C.2.2.2.2.1 hE.2.1 (at_checkIndex w hw)) (by decide +kernel) hE.2.2.2.2.2.2.1 hE.2.2.2.2.2.2.2.1 hS (hl2.1.trans C.2.2.1.symm) dX11_checkIndex_4 dX11_checkIndex_7 dX11_checkIndex_8 dX11_checkIndex_11 dX11_checkIndex_14 (fun x hx => absurd (hex x hx) (fun h => h)) (Nat.le_of_ble_eq_true rfl) (Nat.le_of_ble_eq_true rfl) (Nat.le_of_ble_eq_true rfl) (Nat.le_of_ble_eq_true rfl) C.2.2.2.2.2.2.2 (fun t hv h1 h2 => xc_keep (Xq := fun E ws' => E = exN 3 ∧ ws' = ws) (E := "java/lang/IndexOutOfBoundsException") hP hD hS ⟨rfl, rfl⟩ h1 h2) hS.2.2 (Nat.le_of_ble_eq_true rfl) (Nat.le_of_ble_eq_true rfl)
set_option maxHeartbeats 4000000 in
theorem cr_checkIndex {l : Launch} {g : EG} {ws : va_W} {b : Int32} (hb : ¬ b = 0) : Ct l g yX11_checkIndex (.code yX11_checkIndex cX11_checkIndex 1 none) 0 0 0 0 ws [.int b] (fun v ws' => v = none ∧ ws' = ws) 0 0 := by
  refine Ct.of rfl (by decide) (Nat.le_of_ble_eq_true rfl) ?_
  intro p e s m args below meth c A C hr
  have h : (if b = 0 then none else some 1) = some 1 := if_neg hb
  refine nw_iload_n (i := 0) C dX11_checkIndex_0 rfl 0 rfl ?_
  refine nw_if_ne (tgt := 15) C dX11_checkIndex_1 (by decide) h (fun _ h => by cases h) (fun _ h => ?_)
  exact nw_vret C hr dX11_checkIndex_15 (Nat.le_refl _) (Nat.le_refl _) ⟨rfl, rfl⟩
