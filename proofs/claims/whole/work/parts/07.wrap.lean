/-! ===== contracts, calls, returns over the class's world and the reference's ===== -/
def BB : Nat := 20000
/-- fuel of a loop -/
def FU : Nat := 1000000
def QI (g : EG) (ad : Nat → Nat) (Rr : va_W) (φ0 : Nat) (r : Int32) (σ : CS) : Option Value → va_W → Prop := fun v ws' => v = some (.int r) ∧ (∃ ta, ws' = cw g ad ta σ ++ Rr) ∧ φ0 ≤ ph σ.2.2 ∧ ph σ.2.2 ≤ BB
def QV (g : EG) (ad : Nat → Nat) (Rr : va_W) (φ0 : Nat) (_ : Int32) (σ : CS) : Option Value → va_W → Prop := fun v ws' => v = none ∧ (∃ ta, ws' = cw g ad ta σ ++ Rr) ∧ φ0 ≤ ph σ.2.2 ∧ ph σ.2.2 ≤ BB
def MI (g : EG) (am : Nat → Nat) (Rr : va_W) (r : Int32) (σ : CS) : Option Value → va_W → Prop := fun v ws' => v = some (.int r) ∧ ws' = mw g am σ ++ Rr
def MV (g : EG) (am : Nat → Nat) (Rr : va_W) (_ : Int32) (σ : CS) : Option Value → va_W → Prop := fun v ws' => v = none ∧ ws' = mw g am σ ++ Rr
def Kv (y : MethodName) (Cn : String) (bytes : ByteArray) (maxL : Nat) (ret : Option FieldType) (n : Nat) : Prop :=
  Cond.instanceMethod y ∈ TT ∧ Cond.selects Cn y y ∈ TT ∧ Cond.initialized y.cls ∈ TT ∧ Cond.code y bytes maxL ret ∈ TT ∧ (y.cls ≠ "java/lang/invoke/MethodHandle" ∧ y.cls ≠ "java/lang/invoke/VarHandle") ∧ (parseMethodDescriptor y.desc).map (fun d => d.parameters.length) = some n
def Ks (y : MethodName) (bytes : ByteArray) (maxL : Nat) (ret : Option FieldType) (n : Nat) : Prop :=
  Cond.static y ∈ TT ∧ Cond.initialized y.cls ∈ TT ∧ Cond.code y bytes maxL ret ∈ TT ∧ (y.cls ≠ "java/lang/invoke/MethodHandle" ∧ y.cls ≠ "java/lang/invoke/VarHandle") ∧ (parseMethodDescriptor y.desc).map (fun d => d.parameters.length) = some n
section NWW
variable {g : EG} {p : Program} {l : Launch} {e : Env} {s : State} {m : MethodId} {args : Array Value} {below : List Frame} {meth : Method} {c : Code} {A : Nat → Prop} {nL : Nat} {cc : ByteArray} {own : String} {lv : List (Nat × Value)} {pc : Nat} {st : List Value} {ad am ta : Nat → Nat} {Rr : va_W} {φ0 fr0 lo0 : Nat} {σ : CS}
/-- at a place of a method of the class that answers an int (I) or nothing (V); res: its answer and the state behind it -/
abbrev NI (g : EG) (p : Program) (l : Launch) (e : Env) (s : State) (m : MethodId) (args : Array Value) (below : List Frame) (meth : Method) (c : Code) (A : Nat → Prop) (fr lo nL : Nat) (ad : Nat → Nat) (Rr : va_W) (φ0 : Nat) (res : Int32 × CS) (ta : Nat → Nat) (σ : CS) (lv : List (Nat × Value)) (pc : Nat) (st : List Value) : Prop :=
  Nw g p l e { frames := fr, cells := BB - φ0, slots := 2 * (BB - φ0), locals := lo } s m args below meth c A (RQ g below args s (ph res.2.2.2 - φ0) (2 * (ph res.2.2.2 - φ0)) A (QI g ad Rr φ0 res.1 res.2)) nL (cw g ad ta σ ++ Rr) (ph σ.2.2 - φ0) (2 * (ph σ.2.2 - φ0)) lv pc st
abbrev NV (g : EG) (p : Program) (l : Launch) (e : Env) (s : State) (m : MethodId) (args : Array Value) (below : List Frame) (meth : Method) (c : Code) (A : Nat → Prop) (fr lo nL : Nat) (ad : Nat → Nat) (Rr : va_W) (φ0 : Nat) (res : Int32 × CS) (ta : Nat → Nat) (σ : CS) (lv : List (Nat × Value)) (pc : Nat) (st : List Value) : Prop :=
  Nw g p l e { frames := fr, cells := BB - φ0, slots := 2 * (BB - φ0), locals := lo } s m args below meth c A (RQ g below args s (ph res.2.2.2 - φ0) (2 * (ph res.2.2.2 - φ0)) A (QV g ad Rr φ0 res.1 res.2)) nL (cw g ad ta σ ++ Rr) (ph σ.2.2 - φ0) (2 * (ph σ.2.2 - φ0)) lv pc st
abbrev NMI (g : EG) (p : Program) (l : Launch) (e : Env) (s : State) (m : MethodId) (args : Array Value) (below : List Frame) (meth : Method) (c : Code) (A : Nat → Prop) (fr lo nL : Nat) (am : Nat → Nat) (Rr : va_W) (res : Int32 × CS) (σ : CS) (lv : List (Nat × Value)) (pc : Nat) (st : List Value) : Prop :=
  Nw g p l e { frames := fr, cells := 0, slots := 0, locals := lo } s m args below meth c A (RQ g below args s 0 0 A (MI g am Rr res.1 res.2)) nL (mw g am σ ++ Rr) 0 0 lv pc st
abbrev NMV (g : EG) (p : Program) (l : Launch) (e : Env) (s : State) (m : MethodId) (args : Array Value) (below : List Frame) (meth : Method) (c : Code) (A : Nat → Prop) (fr lo nL : Nat) (am : Nat → Nat) (Rr : va_W) (res : Int32 × CS) (σ : CS) (lv : List (Nat × Value)) (pc : Nat) (st : List Value) : Prop :=
  Nw g p l e { frames := fr, cells := 0, slots := 0, locals := lo } s m args below meth c A (RQ g below args s 0 0 A (MV g am Rr res.1 res.2)) nL (mw g am σ ++ Rr) 0 0 lv pc st
/-- contracts: from the state σ the answer is r, the state behind it σ' -/
abbrev CtI (l : Launch) (g : EG) (y : MethodName) (cd : Cond) (fr lo : Nat) (ad ta : Nat → Nat) (Rr : va_W) (σ : CS) (av : List Value) (r : Int32) (σ' : CS) : Prop := Ct l g y cd fr lo (BB - ph σ.2.2) (2 * (BB - ph σ.2.2)) (cw g ad ta σ ++ Rr) av (QI g ad Rr (ph σ.2.2) r σ') (ph σ'.2.2 - ph σ.2.2) (2 * (ph σ'.2.2 - ph σ.2.2))
abbrev CtV (l : Launch) (g : EG) (y : MethodName) (cd : Cond) (fr lo : Nat) (ad ta : Nat → Nat) (Rr : va_W) (σ : CS) (av : List Value) (r : Int32) (σ' : CS) : Prop := Ct l g y cd fr lo (BB - ph σ.2.2) (2 * (BB - ph σ.2.2)) (cw g ad ta σ ++ Rr) av (QV g ad Rr (ph σ.2.2) r σ') (ph σ'.2.2 - ph σ.2.2) (2 * (ph σ'.2.2 - ph σ.2.2))
abbrev CmI (l : Launch) (g : EG) (y : MethodName) (cd : Cond) (fr lo : Nat) (am : Nat → Nat) (Rr : va_W) (σ : CS) (av : List Value) (r : Int32) (σ' : CS) : Prop := Ct l g y cd fr lo 0 0 (mw g am σ ++ Rr) av (MI g am Rr r σ') 0 0
abbrev CmV (l : Launch) (g : EG) (y : MethodName) (cd : Cond) (fr lo : Nat) (am : Nat → Nat) (Rr : va_W) (σ : CS) (av : List Value) (r : Int32) (σ' : CS) : Prop := Ct l g y cd fr lo 0 0 (mw g am σ ++ Rr) av (MV g am Rr r σ') 0 0
theorem nc_iret (C : Cx g p s m args meth c A nL cc own) {res : Int32 × CS} {v : Int32} (hr : meth.sig.returnType = some .int) (hd : decode cc pc = .ok (.ireturn, 1)) (hφ : φ0 ≤ ph σ.2.2) (hφ2 : ph σ.2.2 ≤ BB) (h : some (v, σ) = some res) : NI g p l e s m args below meth c A fr0 lo0 nL ad Rr φ0 res ta σ lv pc [.int v] := by
  cases h
  exact nw_iret C hr hd (Nat.le_refl _) (Nat.le_refl _) ⟨rfl, ⟨ta, rfl⟩, hφ, hφ2⟩
theorem nar_b {v : Int32} (h : v = 0 ∨ v = 1) : narrow .boolean (.int v) = .int v := by rcases h with rfl | rfl <;> rfl
theorem fit_b {v : Int32} (h : v = 0 ∨ v = 1) : fits .boolean (.int v) = true := by rcases h with rfl | rfl <;> rfl
theorem nw_zret (C : Cx g p s m args meth c A nL cc own) {R : Room} {ws : va_W} {cells slots : Nat} {v : Int32} {mc ms : Nat} {Qq : Option Value → va_W → Prop} (hr : meth.sig.returnType = some .boolean) (hv : v = 0 ∨ v = 1) (hd : decode cc pc = .ok (.ireturn, 1)) (hc : cells ≤ mc) (hs : slots ≤ ms) (hq : Qq (some (.int v)) ws) :
    Nw g p l e R s m args below meth c A (RQ g below args s mc ms A Qq) nL ws cells slots lv pc [.int v] :=
  nw_ret0 (v := some (.int v)) hc hs hq (fun H locs ls hf hk => W.zret C.1 C.2.1 hr (nar_b hv) (fun t ht hW => hk t ht hW) hf hd C.2.2.2.2.2.2.2)
theorem nc_zret (C : Cx g p s m args meth c A nL cc own) {res : Int32 × CS} {v : Int32} (hr : meth.sig.returnType = some .boolean) (hv : v = 0 ∨ v = 1) (hd : decode cc pc = .ok (.ireturn, 1)) (hφ : φ0 ≤ ph σ.2.2) (hφ2 : ph σ.2.2 ≤ BB) (h : some (v, σ) = some res) : NI g p l e s m args below meth c A fr0 lo0 nL ad Rr φ0 res ta σ lv pc [.int v] := by
  cases h
  exact nw_zret C hr hv hd (Nat.le_refl _) (Nat.le_refl _) ⟨rfl, ⟨ta, rfl⟩, hφ, hφ2⟩
theorem nc_zretg (C : Cx g p s m args meth c A nL cc own) {res : Int32 × CS} {v : Int32} (hr : meth.sig.returnType = some .boolean) (hd : decode cc pc = .ok (.ireturn, 1)) (hφ : φ0 ≤ ph σ.2.2) (hφ2 : ph σ.2.2 ≤ BB) (h : grd (v = 0 ∨ v = 1) (some (v, σ)) = some res) : NI g p l e s m args below meth c A fr0 lo0 nL ad Rr φ0 res ta σ lv pc [.int v] := nc_zret C hr (grd_1 h) hd hφ hφ2 (grd_2 h)
theorem nc_vret (C : Cx g p s m args meth c A nL cc own) {res : Int32 × CS} (hr : meth.sig.returnType = none) (hd : decode cc pc = .ok (.return_, 1)) (hφ : φ0 ≤ ph σ.2.2) (hφ2 : ph σ.2.2 ≤ BB) (h : some ((0 : Int32), σ) = some res) : NV g p l e s m args below meth c A fr0 lo0 nL ad Rr φ0 res ta σ lv pc [] := by
  cases h
  exact nw_vret C hr hd (Nat.le_refl _) (Nat.le_refl _) ⟨rfl, ⟨ta, rfl⟩, hφ, hφ2⟩
theorem nm_iret (C : Cx g p s m args meth c A nL cc own) {res : Int32 × CS} {v : Int32} (hr : meth.sig.returnType = some .int) (hd : decode cc pc = .ok (.ireturn, 1)) (h : some (v, σ) = some res) : NMI g p l e s m args below meth c A fr0 lo0 nL am Rr res σ lv pc [.int v] := by
  cases h
  exact nw_iret C hr hd (Nat.le_refl _) (Nat.le_refl _) ⟨rfl, rfl⟩
theorem nm_zret (C : Cx g p s m args meth c A nL cc own) {res : Int32 × CS} {v : Int32} (hr : meth.sig.returnType = some .boolean) (hv : v = 0 ∨ v = 1) (hd : decode cc pc = .ok (.ireturn, 1)) (h : some (v, σ) = some res) : NMI g p l e s m args below meth c A fr0 lo0 nL am Rr res σ lv pc [.int v] := by
  cases h
  exact nw_zret C hr hv hd (Nat.le_refl _) (Nat.le_refl _) ⟨rfl, rfl⟩
theorem nm_zretg (C : Cx g p s m args meth c A nL cc own) {res : Int32 × CS} {v : Int32} (hr : meth.sig.returnType = some .boolean) (hd : decode cc pc = .ok (.ireturn, 1)) (h : grd (v = 0 ∨ v = 1) (some (v, σ)) = some res) : NMI g p l e s m args below meth c A fr0 lo0 nL am Rr res σ lv pc [.int v] := nm_zret C hr (grd_1 h) hd (grd_2 h)
theorem nm_vret (C : Cx g p s m args meth c A nL cc own) {res : Int32 × CS} (hr : meth.sig.returnType = none) (hd : decode cc pc = .ok (.return_, 1)) (h : some ((0 : Int32), σ) = some res) : NMV g p l e s m args below meth c A fr0 lo0 nL am Rr res σ lv pc [] := by
  cases h
  exact nw_vret C hr hd (Nat.le_refl _) (Nat.le_refl _) ⟨rfl, rfl⟩

theorem nc_callVI (C : Cx g p s m args meth c A nL cc own) {X : Type} {Q : State → Prop} {o : Option (Int32 × CS)} {K : Int32 → CS → Option X} {res : X} {y : MethodName} {bytes : ByteArray} {maxL fr lo n index : Nat} {ret : Option FieldType} {As rest : List Value} {b ci q0 nf : Nat} {fs : List Value} {Cn : String} {T : u_T} (h : bnd o K = some res)
    (hM : ∀ (r1 : Int32) (σ1 : CS), o = some (r1, σ1) → CtI l g y (.code y bytes maxL ret) fr lo ad ta Rr σ (.ref b :: As) r1 σ1) (hlink : Cond.methodLink own index y ∈ TT) (hk : Kv y Cn bytes maxL ret n) (he : (cw g ad ta σ ++ Rr)[q0]? = some (b, .inr (ci, fs))) (hcl : vwCl[ci]? = some (Cn, T, nf)) (hR : fr + 1 ≤ fr0 ∧ 8 + (maxL + 11) + lo ≤ lo0) (hn : As.length = n) (hd : decode cc pc = .ok (.invokevirtual index, 3)) (hst : st = As.reverse ++ .ref b :: rest) (hW : (rest.map fun v => v.category).sum ≤ 8) (hφ : φ0 ≤ ph σ.2.2) (hφ2 : ph σ.2.2 ≤ BB)
    (k : ∀ (r1 : Int32) (σ1 : CS) (ta1 : Nat → Nat), K r1 σ1 = some res → φ0 ≤ ph σ1.2.2 → ph σ1.2.2 ≤ BB → Nw g p l e { frames := fr0, cells := BB - φ0, slots := 2 * (BB - φ0), locals := lo0 } s m args below meth c A Q nL (cw g ad ta1 σ1 ++ Rr) (ph σ1.2.2 - φ0) (2 * (ph σ1.2.2 - φ0)) lv (pc + 3) (.int r1 :: rest)) :
    Nw g p l e { frames := fr0, cells := BB - φ0, slots := 2 * (BB - φ0), locals := lo0 } s m args below meth c A Q nL (cw g ad ta σ ++ Rr) (ph σ.2.2 - φ0) (2 * (ph σ.2.2 - φ0)) lv pc st := by
  obtain ⟨r1, σ1, e1, h1⟩ := bnd_1 h
  refine nw_callV C (hM r1 σ1 e1) hlink hk.1 hk.2.1 hk.2.2.1 hk.2.2.2.1 hk.2.2.2.2.1 hk.2.2.2.2.2 he hcl hR ⟨by show _ ≤ BB - φ0; omega, by show _ ≤ 2 * (BB - φ0); omega⟩ hn hd hst hW ?_
  rintro v ws' ⟨rfl, ⟨ta1, rfl⟩, h3, h4⟩
  have q := k r1 σ1 ta1 h1 (Nat.le_trans hφ h3) h4
  have e2 : ph σ.2.2 - φ0 + (ph σ1.2.2 - ph σ.2.2) = ph σ1.2.2 - φ0 := by omega
  have e3 : 2 * (ph σ.2.2 - φ0) + 2 * (ph σ1.2.2 - ph σ.2.2) = 2 * (ph σ1.2.2 - φ0) := by omega
  rw [e2, e3]
  exact q

theorem nc_callVNI (C : Cx g p s m args meth c A nL cc own) {X : Type} {Q : State → Prop} {o : Option (Int32 × CS)} {K : Int32 → CS → Option X} {res : X} {y : MethodName} {bytes : ByteArray} {maxL fr lo n index : Nat} {ret : Option FieldType} {As rest : List Value} {b ci q0 nf : Nat} {fs : List Value} {Cn : String} {T : u_T} (h : bnd o K = some res)
    (hM : ∀ (r1 : Int32) (σ1 : CS), o = some (r1, σ1) → CtI l g y (.code y bytes maxL ret) fr lo ad ta Rr σ (.ref b :: As) r1 σ1) {host : String} (hlink : Cond.methodLinkNest own index y host ∈ NN) (hk : Kv y Cn bytes maxL ret n) (he : (cw g ad ta σ ++ Rr)[q0]? = some (b, .inr (ci, fs))) (hcl : vwCl[ci]? = some (Cn, T, nf)) (hR : fr + 1 ≤ fr0 ∧ 8 + (maxL + 11) + lo ≤ lo0) (hn : As.length = n) (hd : decode cc pc = .ok (.invokevirtual index, 3)) (hst : st = As.reverse ++ .ref b :: rest) (hW : (rest.map fun v => v.category).sum ≤ 8) (hφ : φ0 ≤ ph σ.2.2) (hφ2 : ph σ.2.2 ≤ BB)
    (k : ∀ (r1 : Int32) (σ1 : CS) (ta1 : Nat → Nat), K r1 σ1 = some res → φ0 ≤ ph σ1.2.2 → ph σ1.2.2 ≤ BB → Nw g p l e { frames := fr0, cells := BB - φ0, slots := 2 * (BB - φ0), locals := lo0 } s m args below meth c A Q nL (cw g ad ta1 σ1 ++ Rr) (ph σ1.2.2 - φ0) (2 * (ph σ1.2.2 - φ0)) lv (pc + 3) (.int r1 :: rest)) :
    Nw g p l e { frames := fr0, cells := BB - φ0, slots := 2 * (BB - φ0), locals := lo0 } s m args below meth c A Q nL (cw g ad ta σ ++ Rr) (ph σ.2.2 - φ0) (2 * (ph σ.2.2 - φ0)) lv pc st := by
  obtain ⟨r1, σ1, e1, h1⟩ := bnd_1 h
  refine nw_callVN C (hM r1 σ1 e1) hlink hk.1 hk.2.1 hk.2.2.1 hk.2.2.2.1 hk.2.2.2.2.1 hk.2.2.2.2.2 he hcl hR ⟨by show _ ≤ BB - φ0; omega, by show _ ≤ 2 * (BB - φ0); omega⟩ hn hd hst hW ?_
  rintro v ws' ⟨rfl, ⟨ta1, rfl⟩, h3, h4⟩
  have q := k r1 σ1 ta1 h1 (Nat.le_trans hφ h3) h4
  have e2 : ph σ.2.2 - φ0 + (ph σ1.2.2 - ph σ.2.2) = ph σ1.2.2 - φ0 := by omega
  have e3 : 2 * (ph σ.2.2 - φ0) + 2 * (ph σ1.2.2 - ph σ.2.2) = 2 * (ph σ1.2.2 - φ0) := by omega
  rw [e2, e3]
  exact q

theorem nc_callSI (C : Cx g p s m args meth c A nL cc own) {X : Type} {Q : State → Prop} {o : Option (Int32 × CS)} {K : Int32 → CS → Option X} {res : X} {y : MethodName} {bytes : ByteArray} {maxL fr lo n index : Nat} {ret : Option FieldType} {As rest : List Value} (h : bnd o K = some res)
    (hM : ∀ (r1 : Int32) (σ1 : CS), o = some (r1, σ1) → CtI l g y (.code y bytes maxL ret) fr lo ad ta Rr σ As r1 σ1) (hlink : Cond.methodLink own index y ∈ TT) (hk : Ks y bytes maxL ret n)  (hR : fr + 1 ≤ fr0 ∧ 8 + (maxL + 11) + lo ≤ lo0) (hn : As.length = n) (hd : decode cc pc = .ok (.invokestatic index, 3)) (hst : st = As.reverse ++ rest) (hW : (rest.map fun v => v.category).sum ≤ 8) (hφ : φ0 ≤ ph σ.2.2) (hφ2 : ph σ.2.2 ≤ BB)
    (k : ∀ (r1 : Int32) (σ1 : CS) (ta1 : Nat → Nat), K r1 σ1 = some res → φ0 ≤ ph σ1.2.2 → ph σ1.2.2 ≤ BB → Nw g p l e { frames := fr0, cells := BB - φ0, slots := 2 * (BB - φ0), locals := lo0 } s m args below meth c A Q nL (cw g ad ta1 σ1 ++ Rr) (ph σ1.2.2 - φ0) (2 * (ph σ1.2.2 - φ0)) lv (pc + 3) (.int r1 :: rest)) :
    Nw g p l e { frames := fr0, cells := BB - φ0, slots := 2 * (BB - φ0), locals := lo0 } s m args below meth c A Q nL (cw g ad ta σ ++ Rr) (ph σ.2.2 - φ0) (2 * (ph σ.2.2 - φ0)) lv pc st := by
  obtain ⟨r1, σ1, e1, h1⟩ := bnd_1 h
  refine nw_callS C (hM r1 σ1 e1) hlink hk.1 hk.2.1 hk.2.2.1 hk.2.2.2.1 hk.2.2.2.2 hR ⟨by show _ ≤ BB - φ0; omega, by show _ ≤ 2 * (BB - φ0); omega⟩ hn hd hst hW ?_
  rintro v ws' ⟨rfl, ⟨ta1, rfl⟩, h3, h4⟩
  have q := k r1 σ1 ta1 h1 (Nat.le_trans hφ h3) h4
  have e2 : ph σ.2.2 - φ0 + (ph σ1.2.2 - ph σ.2.2) = ph σ1.2.2 - φ0 := by omega
  have e3 : 2 * (ph σ.2.2 - φ0) + 2 * (ph σ1.2.2 - ph σ.2.2) = 2 * (ph σ1.2.2 - φ0) := by omega
  rw [e2, e3]
  exact q

theorem nc_callSNI (C : Cx g p s m args meth c A nL cc own) {X : Type} {Q : State → Prop} {o : Option (Int32 × CS)} {K : Int32 → CS → Option X} {res : X} {y : MethodName} {bytes : ByteArray} {maxL fr lo n index : Nat} {ret : Option FieldType} {As rest : List Value} (h : bnd o K = some res)
    (hM : ∀ (r1 : Int32) (σ1 : CS), o = some (r1, σ1) → CtI l g y (.code y bytes maxL ret) fr lo ad ta Rr σ As r1 σ1) {host : String} (hlink : Cond.methodLinkNest own index y host ∈ NN) (hk : Ks y bytes maxL ret n)  (hR : fr + 1 ≤ fr0 ∧ 8 + (maxL + 11) + lo ≤ lo0) (hn : As.length = n) (hd : decode cc pc = .ok (.invokestatic index, 3)) (hst : st = As.reverse ++ rest) (hW : (rest.map fun v => v.category).sum ≤ 8) (hφ : φ0 ≤ ph σ.2.2) (hφ2 : ph σ.2.2 ≤ BB)
    (k : ∀ (r1 : Int32) (σ1 : CS) (ta1 : Nat → Nat), K r1 σ1 = some res → φ0 ≤ ph σ1.2.2 → ph σ1.2.2 ≤ BB → Nw g p l e { frames := fr0, cells := BB - φ0, slots := 2 * (BB - φ0), locals := lo0 } s m args below meth c A Q nL (cw g ad ta1 σ1 ++ Rr) (ph σ1.2.2 - φ0) (2 * (ph σ1.2.2 - φ0)) lv (pc + 3) (.int r1 :: rest)) :
    Nw g p l e { frames := fr0, cells := BB - φ0, slots := 2 * (BB - φ0), locals := lo0 } s m args below meth c A Q nL (cw g ad ta σ ++ Rr) (ph σ.2.2 - φ0) (2 * (ph σ.2.2 - φ0)) lv pc st := by
  obtain ⟨r1, σ1, e1, h1⟩ := bnd_1 h
  refine nw_callSN C (hM r1 σ1 e1) hlink hk.1 hk.2.1 hk.2.2.1 hk.2.2.2.1 hk.2.2.2.2 hR ⟨by show _ ≤ BB - φ0; omega, by show _ ≤ 2 * (BB - φ0); omega⟩ hn hd hst hW ?_
  rintro v ws' ⟨rfl, ⟨ta1, rfl⟩, h3, h4⟩
  have q := k r1 σ1 ta1 h1 (Nat.le_trans hφ h3) h4
  have e2 : ph σ.2.2 - φ0 + (ph σ1.2.2 - ph σ.2.2) = ph σ1.2.2 - φ0 := by omega
  have e3 : 2 * (ph σ.2.2 - φ0) + 2 * (ph σ1.2.2 - ph σ.2.2) = 2 * (ph σ1.2.2 - φ0) := by omega
  rw [e2, e3]
  exact q

theorem nm_callVI (C : Cx g p s m args meth c A nL cc own) {X : Type} {Q : State → Prop} {o : Option (Int32 × CS)} {K : Int32 → CS → Option X} {res : X} {y : MethodName} {bytes : ByteArray} {maxL fr lo n index : Nat} {ret : Option FieldType} {As rest : List Value} {b ci q0 nf : Nat} {fs : List Value} {Cn : String} {T : u_T} (h : bnd o K = some res)
    (hM : ∀ (r1 : Int32) (σ1 : CS), o = some (r1, σ1) → CmI l g y (.code y bytes maxL ret) fr lo am Rr σ (.ref b :: As) r1 σ1) (hlink : Cond.methodLink own index y ∈ TT) (hk : Kv y Cn bytes maxL ret n) (he : (mw g am σ ++ Rr)[q0]? = some (b, .inr (ci, fs))) (hcl : vwCl[ci]? = some (Cn, T, nf)) (hR : fr + 1 ≤ fr0 ∧ 8 + (maxL + 11) + lo ≤ lo0) (hn : As.length = n) (hd : decode cc pc = .ok (.invokevirtual index, 3)) (hst : st = As.reverse ++ .ref b :: rest) (hW : (rest.map fun v => v.category).sum ≤ 8)
    (k : ∀ (r1 : Int32) (σ1 : CS), K r1 σ1 = some res → Nw g p l e { frames := fr0, cells := 0, slots := 0, locals := lo0 } s m args below meth c A Q nL (mw g am σ1 ++ Rr) 0 0 lv (pc + 3) (.int r1 :: rest)) :
    Nw g p l e { frames := fr0, cells := 0, slots := 0, locals := lo0 } s m args below meth c A Q nL (mw g am σ ++ Rr) 0 0 lv pc st := by
  obtain ⟨r1, σ1, e1, h1⟩ := bnd_1 h
  refine nw_callV C (hM r1 σ1 e1) hlink hk.1 hk.2.1 hk.2.2.1 hk.2.2.2.1 hk.2.2.2.2.1 hk.2.2.2.2.2 he hcl hR ⟨Nat.le_refl _, Nat.le_refl _⟩ hn hd hst hW ?_
  rintro v ws' ⟨rfl, rfl⟩
  exact k r1 σ1 h1

theorem nm_callSI (C : Cx g p s m args meth c A nL cc own) {X : Type} {Q : State → Prop} {o : Option (Int32 × CS)} {K : Int32 → CS → Option X} {res : X} {y : MethodName} {bytes : ByteArray} {maxL fr lo n index : Nat} {ret : Option FieldType} {As rest : List Value} (h : bnd o K = some res)
    (hM : ∀ (r1 : Int32) (σ1 : CS), o = some (r1, σ1) → CmI l g y (.code y bytes maxL ret) fr lo am Rr σ As r1 σ1) (hlink : Cond.methodLink own index y ∈ TT) (hk : Ks y bytes maxL ret n)  (hR : fr + 1 ≤ fr0 ∧ 8 + (maxL + 11) + lo ≤ lo0) (hn : As.length = n) (hd : decode cc pc = .ok (.invokestatic index, 3)) (hst : st = As.reverse ++ rest) (hW : (rest.map fun v => v.category).sum ≤ 8)
    (k : ∀ (r1 : Int32) (σ1 : CS), K r1 σ1 = some res → Nw g p l e { frames := fr0, cells := 0, slots := 0, locals := lo0 } s m args below meth c A Q nL (mw g am σ1 ++ Rr) 0 0 lv (pc + 3) (.int r1 :: rest)) :
    Nw g p l e { frames := fr0, cells := 0, slots := 0, locals := lo0 } s m args below meth c A Q nL (mw g am σ ++ Rr) 0 0 lv pc st := by
  obtain ⟨r1, σ1, e1, h1⟩ := bnd_1 h
  refine nw_callS C (hM r1 σ1 e1) hlink hk.1 hk.2.1 hk.2.2.1 hk.2.2.2.1 hk.2.2.2.2 hR ⟨Nat.le_refl _, Nat.le_refl _⟩ hn hd hst hW ?_
  rintro v ws' ⟨rfl, rfl⟩
  exact k r1 σ1 h1

theorem nc_callVV (C : Cx g p s m args meth c A nL cc own) {X : Type} {Q : State → Prop} {o : Option (Int32 × CS)} {K : Int32 → CS → Option X} {res : X} {y : MethodName} {bytes : ByteArray} {maxL fr lo n index : Nat} {ret : Option FieldType} {As rest : List Value} {b ci q0 nf : Nat} {fs : List Value} {Cn : String} {T : u_T} (h : bnd o K = some res)
    (hM : ∀ (r1 : Int32) (σ1 : CS), o = some (r1, σ1) → CtV l g y (.code y bytes maxL ret) fr lo ad ta Rr σ (.ref b :: As) r1 σ1) (hlink : Cond.methodLink own index y ∈ TT) (hk : Kv y Cn bytes maxL ret n) (he : (cw g ad ta σ ++ Rr)[q0]? = some (b, .inr (ci, fs))) (hcl : vwCl[ci]? = some (Cn, T, nf)) (hR : fr + 1 ≤ fr0 ∧ 8 + (maxL + 11) + lo ≤ lo0) (hn : As.length = n) (hd : decode cc pc = .ok (.invokevirtual index, 3)) (hst : st = As.reverse ++ .ref b :: rest) (hW : (rest.map fun v => v.category).sum ≤ 8) (hφ : φ0 ≤ ph σ.2.2) (hφ2 : ph σ.2.2 ≤ BB)
    (k : ∀ (r1 : Int32) (σ1 : CS) (ta1 : Nat → Nat), K r1 σ1 = some res → φ0 ≤ ph σ1.2.2 → ph σ1.2.2 ≤ BB → Nw g p l e { frames := fr0, cells := BB - φ0, slots := 2 * (BB - φ0), locals := lo0 } s m args below meth c A Q nL (cw g ad ta1 σ1 ++ Rr) (ph σ1.2.2 - φ0) (2 * (ph σ1.2.2 - φ0)) lv (pc + 3) (rest)) :
    Nw g p l e { frames := fr0, cells := BB - φ0, slots := 2 * (BB - φ0), locals := lo0 } s m args below meth c A Q nL (cw g ad ta σ ++ Rr) (ph σ.2.2 - φ0) (2 * (ph σ.2.2 - φ0)) lv pc st := by
  obtain ⟨r1, σ1, e1, h1⟩ := bnd_1 h
  refine nw_callV C (hM r1 σ1 e1) hlink hk.1 hk.2.1 hk.2.2.1 hk.2.2.2.1 hk.2.2.2.2.1 hk.2.2.2.2.2 he hcl hR ⟨by show _ ≤ BB - φ0; omega, by show _ ≤ 2 * (BB - φ0); omega⟩ hn hd hst hW ?_
  rintro v ws' ⟨rfl, ⟨ta1, rfl⟩, h3, h4⟩
  have q := k r1 σ1 ta1 h1 (Nat.le_trans hφ h3) h4
  have e2 : ph σ.2.2 - φ0 + (ph σ1.2.2 - ph σ.2.2) = ph σ1.2.2 - φ0 := by omega
  have e3 : 2 * (ph σ.2.2 - φ0) + 2 * (ph σ1.2.2 - ph σ.2.2) = 2 * (ph σ1.2.2 - φ0) := by omega
  rw [e2, e3]
  exact q

theorem nc_callVNV (C : Cx g p s m args meth c A nL cc own) {X : Type} {Q : State → Prop} {o : Option (Int32 × CS)} {K : Int32 → CS → Option X} {res : X} {y : MethodName} {bytes : ByteArray} {maxL fr lo n index : Nat} {ret : Option FieldType} {As rest : List Value} {b ci q0 nf : Nat} {fs : List Value} {Cn : String} {T : u_T} (h : bnd o K = some res)
    (hM : ∀ (r1 : Int32) (σ1 : CS), o = some (r1, σ1) → CtV l g y (.code y bytes maxL ret) fr lo ad ta Rr σ (.ref b :: As) r1 σ1) {host : String} (hlink : Cond.methodLinkNest own index y host ∈ NN) (hk : Kv y Cn bytes maxL ret n) (he : (cw g ad ta σ ++ Rr)[q0]? = some (b, .inr (ci, fs))) (hcl : vwCl[ci]? = some (Cn, T, nf)) (hR : fr + 1 ≤ fr0 ∧ 8 + (maxL + 11) + lo ≤ lo0) (hn : As.length = n) (hd : decode cc pc = .ok (.invokevirtual index, 3)) (hst : st = As.reverse ++ .ref b :: rest) (hW : (rest.map fun v => v.category).sum ≤ 8) (hφ : φ0 ≤ ph σ.2.2) (hφ2 : ph σ.2.2 ≤ BB)
    (k : ∀ (r1 : Int32) (σ1 : CS) (ta1 : Nat → Nat), K r1 σ1 = some res → φ0 ≤ ph σ1.2.2 → ph σ1.2.2 ≤ BB → Nw g p l e { frames := fr0, cells := BB - φ0, slots := 2 * (BB - φ0), locals := lo0 } s m args below meth c A Q nL (cw g ad ta1 σ1 ++ Rr) (ph σ1.2.2 - φ0) (2 * (ph σ1.2.2 - φ0)) lv (pc + 3) (rest)) :
    Nw g p l e { frames := fr0, cells := BB - φ0, slots := 2 * (BB - φ0), locals := lo0 } s m args below meth c A Q nL (cw g ad ta σ ++ Rr) (ph σ.2.2 - φ0) (2 * (ph σ.2.2 - φ0)) lv pc st := by
  obtain ⟨r1, σ1, e1, h1⟩ := bnd_1 h
  refine nw_callVN C (hM r1 σ1 e1) hlink hk.1 hk.2.1 hk.2.2.1 hk.2.2.2.1 hk.2.2.2.2.1 hk.2.2.2.2.2 he hcl hR ⟨by show _ ≤ BB - φ0; omega, by show _ ≤ 2 * (BB - φ0); omega⟩ hn hd hst hW ?_
  rintro v ws' ⟨rfl, ⟨ta1, rfl⟩, h3, h4⟩
  have q := k r1 σ1 ta1 h1 (Nat.le_trans hφ h3) h4
  have e2 : ph σ.2.2 - φ0 + (ph σ1.2.2 - ph σ.2.2) = ph σ1.2.2 - φ0 := by omega
  have e3 : 2 * (ph σ.2.2 - φ0) + 2 * (ph σ1.2.2 - ph σ.2.2) = 2 * (ph σ1.2.2 - φ0) := by omega
  rw [e2, e3]
  exact q

theorem nc_callSV (C : Cx g p s m args meth c A nL cc own) {X : Type} {Q : State → Prop} {o : Option (Int32 × CS)} {K : Int32 → CS → Option X} {res : X} {y : MethodName} {bytes : ByteArray} {maxL fr lo n index : Nat} {ret : Option FieldType} {As rest : List Value} (h : bnd o K = some res)
    (hM : ∀ (r1 : Int32) (σ1 : CS), o = some (r1, σ1) → CtV l g y (.code y bytes maxL ret) fr lo ad ta Rr σ As r1 σ1) (hlink : Cond.methodLink own index y ∈ TT) (hk : Ks y bytes maxL ret n)  (hR : fr + 1 ≤ fr0 ∧ 8 + (maxL + 11) + lo ≤ lo0) (hn : As.length = n) (hd : decode cc pc = .ok (.invokestatic index, 3)) (hst : st = As.reverse ++ rest) (hW : (rest.map fun v => v.category).sum ≤ 8) (hφ : φ0 ≤ ph σ.2.2) (hφ2 : ph σ.2.2 ≤ BB)
    (k : ∀ (r1 : Int32) (σ1 : CS) (ta1 : Nat → Nat), K r1 σ1 = some res → φ0 ≤ ph σ1.2.2 → ph σ1.2.2 ≤ BB → Nw g p l e { frames := fr0, cells := BB - φ0, slots := 2 * (BB - φ0), locals := lo0 } s m args below meth c A Q nL (cw g ad ta1 σ1 ++ Rr) (ph σ1.2.2 - φ0) (2 * (ph σ1.2.2 - φ0)) lv (pc + 3) (rest)) :
    Nw g p l e { frames := fr0, cells := BB - φ0, slots := 2 * (BB - φ0), locals := lo0 } s m args below meth c A Q nL (cw g ad ta σ ++ Rr) (ph σ.2.2 - φ0) (2 * (ph σ.2.2 - φ0)) lv pc st := by
  obtain ⟨r1, σ1, e1, h1⟩ := bnd_1 h
  refine nw_callS C (hM r1 σ1 e1) hlink hk.1 hk.2.1 hk.2.2.1 hk.2.2.2.1 hk.2.2.2.2 hR ⟨by show _ ≤ BB - φ0; omega, by show _ ≤ 2 * (BB - φ0); omega⟩ hn hd hst hW ?_
  rintro v ws' ⟨rfl, ⟨ta1, rfl⟩, h3, h4⟩
  have q := k r1 σ1 ta1 h1 (Nat.le_trans hφ h3) h4
  have e2 : ph σ.2.2 - φ0 + (ph σ1.2.2 - ph σ.2.2) = ph σ1.2.2 - φ0 := by omega
  have e3 : 2 * (ph σ.2.2 - φ0) + 2 * (ph σ1.2.2 - ph σ.2.2) = 2 * (ph σ1.2.2 - φ0) := by omega
  rw [e2, e3]
  exact q

theorem nc_callSNV (C : Cx g p s m args meth c A nL cc own) {X : Type} {Q : State → Prop} {o : Option (Int32 × CS)} {K : Int32 → CS → Option X} {res : X} {y : MethodName} {bytes : ByteArray} {maxL fr lo n index : Nat} {ret : Option FieldType} {As rest : List Value} (h : bnd o K = some res)
    (hM : ∀ (r1 : Int32) (σ1 : CS), o = some (r1, σ1) → CtV l g y (.code y bytes maxL ret) fr lo ad ta Rr σ As r1 σ1) {host : String} (hlink : Cond.methodLinkNest own index y host ∈ NN) (hk : Ks y bytes maxL ret n)  (hR : fr + 1 ≤ fr0 ∧ 8 + (maxL + 11) + lo ≤ lo0) (hn : As.length = n) (hd : decode cc pc = .ok (.invokestatic index, 3)) (hst : st = As.reverse ++ rest) (hW : (rest.map fun v => v.category).sum ≤ 8) (hφ : φ0 ≤ ph σ.2.2) (hφ2 : ph σ.2.2 ≤ BB)
    (k : ∀ (r1 : Int32) (σ1 : CS) (ta1 : Nat → Nat), K r1 σ1 = some res → φ0 ≤ ph σ1.2.2 → ph σ1.2.2 ≤ BB → Nw g p l e { frames := fr0, cells := BB - φ0, slots := 2 * (BB - φ0), locals := lo0 } s m args below meth c A Q nL (cw g ad ta1 σ1 ++ Rr) (ph σ1.2.2 - φ0) (2 * (ph σ1.2.2 - φ0)) lv (pc + 3) (rest)) :
    Nw g p l e { frames := fr0, cells := BB - φ0, slots := 2 * (BB - φ0), locals := lo0 } s m args below meth c A Q nL (cw g ad ta σ ++ Rr) (ph σ.2.2 - φ0) (2 * (ph σ.2.2 - φ0)) lv pc st := by
  obtain ⟨r1, σ1, e1, h1⟩ := bnd_1 h
  refine nw_callSN C (hM r1 σ1 e1) hlink hk.1 hk.2.1 hk.2.2.1 hk.2.2.2.1 hk.2.2.2.2 hR ⟨by show _ ≤ BB - φ0; omega, by show _ ≤ 2 * (BB - φ0); omega⟩ hn hd hst hW ?_
  rintro v ws' ⟨rfl, ⟨ta1, rfl⟩, h3, h4⟩
  have q := k r1 σ1 ta1 h1 (Nat.le_trans hφ h3) h4
  have e2 : ph σ.2.2 - φ0 + (ph σ1.2.2 - ph σ.2.2) = ph σ1.2.2 - φ0 := by omega
  have e3 : 2 * (ph σ.2.2 - φ0) + 2 * (ph σ1.2.2 - ph σ.2.2) = 2 * (ph σ1.2.2 - φ0) := by omega
  rw [e2, e3]
  exact q

theorem nm_callVV (C : Cx g p s m args meth c A nL cc own) {X : Type} {Q : State → Prop} {o : Option (Int32 × CS)} {K : Int32 → CS → Option X} {res : X} {y : MethodName} {bytes : ByteArray} {maxL fr lo n index : Nat} {ret : Option FieldType} {As rest : List Value} {b ci q0 nf : Nat} {fs : List Value} {Cn : String} {T : u_T} (h : bnd o K = some res)
    (hM : ∀ (r1 : Int32) (σ1 : CS), o = some (r1, σ1) → CmV l g y (.code y bytes maxL ret) fr lo am Rr σ (.ref b :: As) r1 σ1) (hlink : Cond.methodLink own index y ∈ TT) (hk : Kv y Cn bytes maxL ret n) (he : (mw g am σ ++ Rr)[q0]? = some (b, .inr (ci, fs))) (hcl : vwCl[ci]? = some (Cn, T, nf)) (hR : fr + 1 ≤ fr0 ∧ 8 + (maxL + 11) + lo ≤ lo0) (hn : As.length = n) (hd : decode cc pc = .ok (.invokevirtual index, 3)) (hst : st = As.reverse ++ .ref b :: rest) (hW : (rest.map fun v => v.category).sum ≤ 8)
    (k : ∀ (r1 : Int32) (σ1 : CS), K r1 σ1 = some res → Nw g p l e { frames := fr0, cells := 0, slots := 0, locals := lo0 } s m args below meth c A Q nL (mw g am σ1 ++ Rr) 0 0 lv (pc + 3) (rest)) :
    Nw g p l e { frames := fr0, cells := 0, slots := 0, locals := lo0 } s m args below meth c A Q nL (mw g am σ ++ Rr) 0 0 lv pc st := by
  obtain ⟨r1, σ1, e1, h1⟩ := bnd_1 h
  refine nw_callV C (hM r1 σ1 e1) hlink hk.1 hk.2.1 hk.2.2.1 hk.2.2.2.1 hk.2.2.2.2.1 hk.2.2.2.2.2 he hcl hR ⟨Nat.le_refl _, Nat.le_refl _⟩ hn hd hst hW ?_
  rintro v ws' ⟨rfl, rfl⟩
  exact k r1 σ1 h1

theorem nm_callSV (C : Cx g p s m args meth c A nL cc own) {X : Type} {Q : State → Prop} {o : Option (Int32 × CS)} {K : Int32 → CS → Option X} {res : X} {y : MethodName} {bytes : ByteArray} {maxL fr lo n index : Nat} {ret : Option FieldType} {As rest : List Value} (h : bnd o K = some res)
    (hM : ∀ (r1 : Int32) (σ1 : CS), o = some (r1, σ1) → CmV l g y (.code y bytes maxL ret) fr lo am Rr σ As r1 σ1) (hlink : Cond.methodLink own index y ∈ TT) (hk : Ks y bytes maxL ret n)  (hR : fr + 1 ≤ fr0 ∧ 8 + (maxL + 11) + lo ≤ lo0) (hn : As.length = n) (hd : decode cc pc = .ok (.invokestatic index, 3)) (hst : st = As.reverse ++ rest) (hW : (rest.map fun v => v.category).sum ≤ 8)
    (k : ∀ (r1 : Int32) (σ1 : CS), K r1 σ1 = some res → Nw g p l e { frames := fr0, cells := 0, slots := 0, locals := lo0 } s m args below meth c A Q nL (mw g am σ1 ++ Rr) 0 0 lv (pc + 3) (rest)) :
    Nw g p l e { frames := fr0, cells := 0, slots := 0, locals := lo0 } s m args below meth c A Q nL (mw g am σ ++ Rr) 0 0 lv pc st := by
  obtain ⟨r1, σ1, e1, h1⟩ := bnd_1 h
  refine nw_callS C (hM r1 σ1 e1) hlink hk.1 hk.2.1 hk.2.2.1 hk.2.2.2.1 hk.2.2.2.2 hR ⟨Nat.le_refl _, Nat.le_refl _⟩ hn hd hst hW ?_
  rintro v ws' ⟨rfl, rfl⟩
  exact k r1 σ1 h1

end NWW
