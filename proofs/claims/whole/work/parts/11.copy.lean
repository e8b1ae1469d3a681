theorem dJ7_copyOf_59c91_0 : decode cJ7_copyOf_59c91 0 = .ok (.iload_n 1, 1) := by decide +kernel
theorem dJ7_copyOf_59c91_1 : decode cJ7_copyOf_59c91 1 = .ok (.aload_n 0, 1) := by decide +kernel
theorem dJ7_copyOf_59c91_2 : decode cJ7_copyOf_59c91 2 = .ok (.arraylength, 1) := by decide +kernel
theorem dJ7_copyOf_59c91_3 : decode cJ7_copyOf_59c91 3 = .ok (.if_icmp .ne 11, 3) := by decide +kernel
theorem dJ7_copyOf_59c91_6 : decode cJ7_copyOf_59c91 6 = .ok (.aload_n 0, 1) := by decide +kernel
theorem dJ7_copyOf_59c91_7 : decode cJ7_copyOf_59c91 7 = .ok (.invokevirtual 316, 3) := by decide +kernel
theorem dJ7_copyOf_59c91_10 : decode cJ7_copyOf_59c91 10 = .ok (.checkcast 317, 3) := by decide +kernel
theorem dJ7_copyOf_59c91_13 : decode cJ7_copyOf_59c91 13 = .ok (.areturn, 1) := by decide +kernel
theorem dJ7_copyOf_59c91_14 : decode cJ7_copyOf_59c91 14 = .ok (.iload_n 1, 1) := by decide +kernel
theorem dJ7_copyOf_59c91_15 : decode cJ7_copyOf_59c91 15 = .ok (.newarray .int, 2) := by decide +kernel
theorem dJ7_copyOf_59c91_17 : decode cJ7_copyOf_59c91 17 = .ok (.astore_n 2, 1) := by decide +kernel
theorem dJ7_copyOf_59c91_18 : decode cJ7_copyOf_59c91 18 = .ok (.aload_n 0, 1) := by decide +kernel
theorem dJ7_copyOf_59c91_19 : decode cJ7_copyOf_59c91 19 = .ok (.iconst 0, 1) := by decide +kernel
theorem dJ7_copyOf_59c91_20 : decode cJ7_copyOf_59c91 20 = .ok (.aload_n 2, 1) := by decide +kernel
theorem dJ7_copyOf_59c91_21 : decode cJ7_copyOf_59c91 21 = .ok (.iconst 0, 1) := by decide +kernel
theorem dJ7_copyOf_59c91_22 : decode cJ7_copyOf_59c91 22 = .ok (.aload_n 0, 1) := by decide +kernel
theorem dJ7_copyOf_59c91_23 : decode cJ7_copyOf_59c91 23 = .ok (.arraylength, 1) := by decide +kernel
theorem dJ7_copyOf_59c91_24 : decode cJ7_copyOf_59c91 24 = .ok (.iload_n 1, 1) := by decide +kernel
theorem dJ7_copyOf_59c91_25 : decode cJ7_copyOf_59c91 25 = .ok (.invokestatic 304, 3) := by decide +kernel
theorem dJ7_copyOf_59c91_28 : decode cJ7_copyOf_59c91 28 = .ok (.invokestatic 150, 3) := by decide +kernel
theorem dJ7_copyOf_59c91_31 : decode cJ7_copyOf_59c91 31 = .ok (.aload_n 2, 1) := by decide +kernel
theorem dJ7_copyOf_59c91_32 : decode cJ7_copyOf_59c91 32 = .ok (.areturn, 1) := by decide +kernel
section NWY
variable {g : EG} {p : Program} {l : Launch} {e : Env} {R : Room} {s : State} {m : MethodId} {args : Array Value} {below : List Frame} {meth : Method} {c : Code} {A : Nat → Prop} {Q : State → Prop} {nL : Nat} {cc : ByteArray} {own : String} {ws : va_W} {cells slots : Nat} {lv lv' : List (Nat × Value)} {pc : Nat} {st : List Value}
theorem nw_newI (C : Cx g p s m args meth c A nL cc own) {n : Int32} {N' : Nat} (hw : Cond.arrayClass .int ∈ TT) (hn : ¬ n < 0) (hN : n.toNatClampNeg = N') (hb : N' * 4 ≤ 536870912) (hcells : cells + 1 ≤ R.cells) (hslots : slots + N' ≤ R.slots) (hd : decode cc pc = .ok (.newarray .int, 2))
    (k : ∀ q : Nat, Nw g p l e R s m args below meth c A Q nL (ws ++ [(q, .inl (gI g, N', .inl (fun _ => 0)))]) (cells + 1) (slots + N') lv (pc + 2) (.ref q :: st)) : Nw g p l e R s m args below meth c A Q nL ws cells slots lv pc (.int n :: st) := by
  intro H locs ls hP hD hS hl
  obtain ⟨hx, hb0, hml, hown, hts, hE, hA, hlk⟩ := id C
  refine va_newa (atype := .int) (a0 := (N', .inl (fun _ => 0))) hx hb0 (hts _ hw) rfl hE.1 hP hD hS hA (fun _ => rfl) hn hN hb hcells hslots hd (fun q cA H1 hK1 hP1 hD1 hS1 => ?_)
  have h1 := (hK1.2 4 (cA, .int) rfl).2
  have h2 := (hE.1.2 0 (gI g, .int) rfl).2
  have e : cA = gI g := Option.some.inj (h1.symm.trans h2)
  subst e
  exact k q H1 locs ls hP1 hD1 hS1 hl
theorem nw_copyi (C : Cx g p s m args meth c A nL cc own) {index : Nat} (hw : Cond.methodLink own index arraycopyName ∈ TT) (hnat : Cond.native arraycopyName ∈ TT) (hstat : Cond.static arraycopyName ∈ TT) (hini : Cond.initialized "java/lang/System" ∈ TT) (q0 q1 : Nat) {a a0 n0 n1 : Nat} {f f1 : Nat → Int32} (ha0 : ws[q0]? = some (a0, .inl (gI g, n0, .inl f))) (ha1 : ws[q1]? = some (a, .inl (gI g, n1, .inl f1)))
    {sp dp n : Int32} (h1 : ¬ sp < 0) (h2 : ¬ dp < 0) (h3 : ¬ n < 0) (h4 : sp.toNatClampNeg + n.toNatClampNeg ≤ n0) (h5 : dp.toNatClampNeg + n.toNatClampNeg ≤ n1) (hframes : 1 ≤ R.frames) (hlocals : (st.map fun v => v.category).sum + (nativeFrameWords "java/lang/System" "arraycopy" 5 + 11) ≤ R.locals) (hd : decode cc pc = .ok (.invokestatic index, 3))
    (k : Nw g p l e R s m args below meth c A Q nL (ws.set q1 (a, .inl (gI g, n1, .inl (va_cpy f f1 sp.toNatClampNeg dp.toNatClampNeg n.toNatClampNeg)))) cells slots lv (pc + 3) st) : Nw g p l e R s m args below meth c A Q nL ws cells slots lv pc (.int n :: .int dp :: .ref a :: .int sp :: .ref a0 :: st) :=
  fun H locs ls hP hD hS hl => va_copyi C.1 C.2.1 (C.2.2.1.trans hl.1.symm) C.2.2.2.1 (C.2.2.2.2.1 _ hw) (C.2.2.2.2.1 _ hnat) (C.2.2.2.2.1 _ hstat) (C.2.2.2.2.1 _ hini) C.2.2.2.2.2.1.1 hP hD hS q0 q1 0 0 ha0 ha1 rfl rfl rfl h1 h2 h3 h4 h5 (fun _ _ => rfl) hframes hlocals hd (fun H1 locs1 hP1 hD1 hS1 => k H1 locs1 ls hP1 hD1 hS1 hl)
theorem nw_aret (C : Cx g p s m args meth c A nL cc own) {v : Nat} {rt : FieldType} {mc ms : Nat} {Qq : Option Value → va_W → Prop} (hr : meth.sig.returnType = some rt) (hrt : (∃ n, rt = .object n) ∨ ∃ t, rt = .array t) (hd : decode cc pc = .ok (.areturn, 1)) (hc : cells ≤ mc) (hs : slots ≤ ms) (hq : Qq (some (.ref v)) ws) :
    Nw g p l e R s m args below meth c A (RQ g below args s mc ms A Qq) nL ws cells slots lv pc [.ref v] :=
  nw_ret0 (v := some (.ref v)) hc hs hq (fun H locs ls hf hk => W.aret C.1 C.2.1 hr hrt (Or.inr ⟨v, rfl⟩) (fun t ht hW => hk t ht hW) hf hd (hlocks := C.2.2.2.2.2.2.2))
theorem nw_widen {k n : Nat} (h1 : cells ≤ k) (h2 : slots ≤ n) (kk : Nw g p l e R s m args below meth c A Q nL ws k n lv pc st) : Nw g p l e R s m args below meth c A Q nL ws cells slots lv pc st := fun H locs ls hP hD hS hl => W.widen h1 h2 (kk H locs ls hP hD hS hl)
/-- a cell at the end takes the place of another -/
theorem nw_repl {j : Nat} {q : Nat × va_E} (hj : j < ws.length) (k : Nw g p l e R s m args below meth c A Q nL (ws.set j q) cells slots lv pc st) : Nw g p l e R s m args below meth c A Q nL (ws ++ [q]) cells slots lv pc st := by
  intro H locs ls hP hD hS hl
  have key : ∀ (i : Nat) (x : Nat × va_E), (ws.set j q)[i]? = some x → (ws ++ [q])[if i = j then ws.length else i]? = some x := by
    intro i x h
    by_cases hi : i = j
    · subst hi
      rw [if_pos rfl]
      rw [List.getElem?_set_self hj] at h
      simpa using h
    · rw [if_neg hi]
      rw [List.getElem?_set_ne (Ne.symm hi)] at h
      have hl2 : i < ws.length := (List.getElem?_eq_some_iff.mp h).1
      rw [List.getElem?_append_left hl2]
      exact h
  refine k H locs ls (fun i x h => hP _ x (key i x h)) ⟨fun i i2 x y h1 h2 h3 => ?_, fun i x h => hD.2 _ x (key i x h)⟩ hS hl
  have h4 := hD.1 _ _ x y (key i x h1) (key i2 y h2) h3
  have b1 : i < ws.length := by
    have := (List.getElem?_eq_some_iff.mp h1).1
    simpa using this
  have b2 : i2 < ws.length := by
    have := (List.getElem?_eq_some_iff.mp h2).1
    simpa using this
  by_cases hi : i = j <;> by_cases hi2 : i2 = j
  · rw [hi, hi2]
  · rw [if_pos hi, if_neg hi2] at h4; omega
  · rw [if_neg hi, if_pos hi2] at h4; omega
  · rw [if_neg hi, if_neg hi2] at h4; exact h4
end NWY
/-- Arrays.copyOf to a greater length -/
theorem c_copyOf {l : Launch} {g : EG} {ws : va_W} {j a old N : Nat} {f : Nat → Int32} (hj : ws[j]? = some (a, .inl (gI g, old, .inl f))) (h1 : old < N) (h2 : N ≤ 100000) :
    Ct l g yJ7_copyOf_59c91 (.code yJ7_copyOf_59c91 cJ7_copyOf_59c91 3 (some (.array .int))) 2 100 1 N ws [.ref a, .int (nI N)] (fun v ws' => ∃ q, v = some (.ref q) ∧ ws' = ws ++ [(q, .inl (gI g, N, .inl (va_cpy f (fun _ => 0) 0 0 old)))]) 1 N := by
  refine Ct.of rfl (by decide) (Nat.le_of_ble_eq_true rfl) ?_
  intro p e s m args below meth c A C hr
  have hjl : j < ws.length := (List.getElem?_eq_some_iff.mp hj).1
  have h : (if nI N = nI old then none else some 1) = some 1 := if_neg (fun h9 => by have := (nI_eq (by omega) (by omega)).mp h9; omega)
  refine nw_iload_n (i := 1) C dJ7_copyOf_59c91_0 rfl 1 rfl ?_
  refine nw_aload_n (i := 0) C dJ7_copyOf_59c91_1 rfl 0 rfl ?_
  refine nw_alenI C j hj dJ7_copyOf_59c91_2 ?_
  refine nw_icmp_ne (tgt := 14) C dJ7_copyOf_59c91_3 (by decide) h (fun _ h => by cases h) (fun _ h => ?_)
  refine nw_iload_n (i := 1) C dJ7_copyOf_59c91_14 rfl 1 rfl ?_
  refine nw_newI (N' := N) C tw_180 (nI_pos (by omega)) (nI_clamp (by omega)) (by omega) (by show 0 + 1 ≤ 1; omega) (by show 0 + N ≤ N; omega) dJ7_copyOf_59c91_15 (fun q => ?_)
  refine nw_astore_n (lv' := [(2, .ref q), (0, .ref a), (1, .int (nI N))]) C dJ7_copyOf_59c91_17 rfl (by decide) rfl ?_
  refine nw_aload_n C dJ7_copyOf_59c91_18 rfl 1 rfl ?_
  refine nw_iconst (v := 0) C dJ7_copyOf_59c91_19 (by decide) ?_
  refine nw_aload_n C dJ7_copyOf_59c91_20 rfl 0 rfl ?_
  refine nw_iconst (v := 0) C dJ7_copyOf_59c91_21 (by decide) ?_
  refine nw_aload_n C dJ7_copyOf_59c91_22 rfl 1 rfl ?_
  have hj2 : (ws ++ [(q, (.inl (gI g, N, .inl (fun _ => 0)) : va_E))])[j]? = some (a, .inl (gI g, old, .inl f)) := by rw [List.getElem?_append_left hjl]; exact hj
  have hq2 : (ws ++ [(q, (.inl (gI g, N, .inl (fun _ => 0)) : va_E))])[ws.length]? = some (q, .inl (gI g, N, .inl (fun _ => 0))) := by simp
  refine nw_alenI C j hj2 dJ7_copyOf_59c91_23 ?_
  refine nw_iload_n C dJ7_copyOf_59c91_24 rfl 2 rfl ?_
  refine nw_mmin C tw_366 tw_367 tw_125 tm_min (Nat.le_of_ble_eq_true rfl) (Nat.le_of_ble_eq_true rfl) (by show 0 + 1 ≤ 1; omega) (by show 0 + N ≤ N; omega) dJ7_copyOf_59c91_25 ?_
  have hm : (if nI N < nI old then nI N else nI old) = nI old := if_neg (nI_nlt (by omega) (by omega))
  rw [hm]
  have hc0 : (0 : Int32).toNatClampNeg = 0 := rfl
  refine nw_copyi C tw_369 tw_371 tw_370 tw_134 j ws.length hj2 hq2 (by decide) (by decide) (nI_pos (by omega)) (by rw [nI_clamp (by omega), hc0]; omega) (by rw [nI_clamp (by omega), hc0]; omega) (Nat.le_of_ble_eq_true rfl) (Nat.le_of_ble_eq_true rfl) dJ7_copyOf_59c91_28 ?_
  refine nw_aload_n C dJ7_copyOf_59c91_31 rfl 0 rfl ?_
  refine nw_aret C hr (Or.inr ⟨_, rfl⟩) dJ7_copyOf_59c91_32 (by omega) (by omega) ⟨q, rfl, ?_⟩
  rw [nI_clamp (by omega), hc0]
  simp
/-- growing a table's row of numbers -/
abbrev grw (σ : CS) (t : Nat) (n : Int32) : Prop := ¬ n < 0 ∧ σ.2.2 t < n.toNatClampNeg ∧ 2 * σ.2.2 t ≤ n.toNatClampNeg ∧ ph σ.2.2 + (n.toNatClampNeg - σ.2.2 t) ≤ BB
def gro (σ : CS) (t : Nat) (n : Int32) : CS := (σ.1, va_up σ.2.1 t (va_cpy (σ.2.1 t) (fun _ => 0) 0 0 (σ.2.2 t)), va_up σ.2.2 t n.toNatClampNeg)
theorem ph_up {f : Nat → Nat} {t n : Nat} (ht : t < 16) (h : f t ≤ n) : ph (va_up f t n) = ph f + (n - f t) := by
  match t, ht with
  | 0, _ | 1, _ | 2, _ | 3, _ | 4, _ | 5, _ | 6, _ | 7, _ | 8, _ | 9, _ | 10, _ | 11, _ | 12, _ | 13, _ | 14, _ | 15, _ => simp [ph, va_up]; omega
  | k + 16, h9 => exact absurd h9 (by omega)
theorem cs_gro {g : EG} {ad ta : Nat → Nat} {σ : CS} {Rr : va_W} {q : Nat} {n : Int32} (t : Nat) (h : t < 16) : ((cw g ad ta σ ++ Rr).set (11 + t) (ad (11 + t), .inr (9, [.int (σ.1 (3 * t)), .int (σ.1 (3 * t + 1)), .ref (ta t), .int (σ.1 (3 * t + 2))].set 2 (.ref q)))).set (27 + t) (q, .inl (gI g, n.toNatClampNeg, .inl (va_cpy (σ.2.1 t) (fun _ => 0) 0 0 (σ.2.2 t)))) = cw g ad (va_up ta t q) (gro σ t n) ++ Rr := match t, h with | 0, _ => rfl | 1, _ => rfl | 2, _ => rfl | 3, _ => rfl | 4, _ => rfl | 5, _ => rfl | 6, _ => rfl | 7, _ => rfl | 8, _ => rfl | 9, _ => rfl | 10, _ => rfl | 11, _ => rfl | 12, _ => rfl | 13, _ => rfl | 14, _ => rfl | 15, _ => rfl | n + 16, h => absurd h (by omega)
section NWZ
variable {g : EG} {p : Program} {l : Launch} {e : Env} {s : State} {m : MethodId} {args : Array Value} {below : List Frame} {meth : Method} {c : Code} {A : Nat → Prop} {nL : Nat} {cc : ByteArray} {lv : List (Nat × Value)} {pc : Nat} {ad ta : Nat → Nat} {Rr : va_W} {φ0 fr0 lo0 : Nat} {σ : CS} {Q : State → Prop}
theorem cw_len : (cw g ad ta σ).length = 60 := rfl
theorem nc_grow (C : Cx g p s m args meth c A nL cc yX9_add.cls) {X : Type} {a : Option X} {res : X} {t : Nat} {n : Int32} {i1 i2 : Nat} (ht : t < 16) (h : grd (grw σ t n) a = some res) (hw1 : Cond.methodLink yX9_add.cls i1 yJ7_copyOf_59c91 ∈ TT) (hw2 : Cond.fieldLink yX9_add.cls i2 RX9 "cells" "[I" ∈ TT) (hR : 2 + 1 ≤ fr0 ∧ 8 + (3 + 11) + 100 ≤ lo0)
    (hd1 : decode cc pc = .ok (.invokestatic i1, 3)) (hd2 : decode cc (pc + 3) = .ok (.putfield i2, 3)) (hφ : φ0 ≤ ph σ.2.2) (hφ2 : ph σ.2.2 ≤ BB)
    (k : ∀ ta1 : Nat → Nat, a = some res → φ0 ≤ ph (gro σ t n).2.2 → ph (gro σ t n).2.2 ≤ BB → Nw g p l e { frames := fr0, cells := BB - φ0, slots := 2 * (BB - φ0), locals := lo0 } s m args below meth c A Q nL (cw g ad ta1 (gro σ t n) ++ Rr) (ph (gro σ t n).2.2 - φ0) (2 * (ph (gro σ t n).2.2 - φ0)) lv (pc + 6) []) :
    Nw g p l e { frames := fr0, cells := BB - φ0, slots := 2 * (BB - φ0), locals := lo0 } s m args below meth c A Q nL (cw g ad ta σ ++ Rr) (ph σ.2.2 - φ0) (2 * (ph σ.2.2 - φ0)) lv pc [.int n, .ref (ta t), .ref (ad (11 + t))] := by
  obtain ⟨g1, g2, g3, g4⟩ := grd_1 h
  have hp : ph (gro σ t n).2.2 = ph σ.2.2 + (n.toNatClampNeg - σ.2.2 t) := ph_up ht (Nat.le_of_lt g2)
  have hBB : BB = 20000 := rfl
  have hle : σ.2.2 t ≤ ph σ.2.2 := by
    match t, ht with
    | 0, _ | 1, _ | 2, _ | 3, _ | 4, _ | 5, _ | 6, _ | 7, _ | 8, _ | 9, _ | 10, _ | 11, _ | 12, _ | 13, _ | 14, _ | 15, _ => simp only [ph]; omega
    | k + 16, h9 => exact absurd h9 (by omega)
  obtain ⟨N, hN, rfl⟩ := nI_of g1
  rw [nI_clamp hN] at g2 g3 g4 hp
  have hcp := c_copyOf (l := l) (cl_TA (g := g) (ad := ad) (ta := ta) (σ := σ) (Rr := Rr) t ht) g2 (by omega)
  refine nw_callS (As := [.ref (ta t), .int (nI N)]) (rest := [.ref (ad (11 + t))]) C hcp hw1 ks_J7_copyOf_59c91.1 ks_J7_copyOf_59c91.2.1 ks_J7_copyOf_59c91.2.2.1 ks_J7_copyOf_59c91.2.2.2.1 ks_J7_copyOf_59c91.2.2.2.2 hR ⟨by show _ ≤ BB - φ0; omega, by show _ ≤ 2 * (BB - φ0); omega⟩ rfl hd1 rfl (Nat.le_of_ble_eq_true rfl) ?_
  rintro v ws' ⟨q, rfl, rfl⟩
  have hT : ((cw g ad ta σ ++ Rr) ++ [(q, (.inl (gI g, N, .inl (va_cpy (σ.2.1 t) (fun _ => 0) 0 0 (σ.2.2 t))) : va_E))])[11 + t]? = some (ad (11 + t), .inr (9, [.int (σ.1 (3 * t)), .int (σ.1 (3 * t + 1)), .ref (ta t), .int (σ.1 (3 * t + 2))])) := by
    rw [List.getElem?_append_left (by rw [List.length_append, cw_len]; omega)]
    exact cl_T t ht
  refine nw_put (ty := .array .int) (v := .ref q) C in_X9 (11 + t) hT rfl 2 (by decide) tyX9 tyX9_ok nmX9 hw2 rfl rfl (by decide +kernel) rfl rfl (Nat.le_of_ble_eq_true rfl) hd2 (List.set_append_left _ _ (by rw [List.length_append, cw_len]; omega)) ?_
  refine nw_repl (j := 27 + t) (by rw [List.length_set, List.length_append, cw_len]; omega) ?_
  have e1 := cs_gro (g := g) (ad := ad) (ta := ta) (σ := σ) (Rr := Rr) (q := q) (n := nI N) t ht
  rw [nI_clamp hN] at e1
  rw [e1]
  refine nw_widen (k := ph (gro σ t (nI N)).2.2 - φ0) (n := 2 * (ph (gro σ t (nI N)).2.2 - φ0)) (by omega) (by omega) ?_
  exact k (va_up ta t q) (grd_2 h) (by omega) (by omega)
end NWZ
