/-! ===== layer 2: texts are read; the kinds of clauses ===== -/
variable {B : Nat → Nat} {n t c0 I R : Nat} {σ0 τ0 : CS}
theorem code_ag {s M : Nat} {bb : Bool} {row : Nat → Int32} {σ τ : CS} {F G : CS → Option (Int32 × CS)} (h : CSt B n t σ0 τ0 c0 I R s c0 row σ τ) (hR : rws σ0 4 = R) (e32 : τ.2.1 32 I = nI c0) (r4 : row 4 = nI (rws σ0 5)) (r0 : rws σ 5 = rws σ0 5) (ht : t < 10) (hc : c0 ≤ s + 12) (hr : rws σ0 5 + n ≤ 4000 + s) (hS : Spc B n t 0 F G M bb) (hM : M ≤ 60) :
    ∃ r σ3 v τ3, F σ = some (r, σ3) ∧ G τ = some (v, τ3) ∧ ∃ σ' τ', (if r = 0 then B_Reader_readClause_331 (nI R) 0 σ3 else B_Reader_readClause_331 (nI R) 1 σ3) = some (0, σ') ∧ bnd (f_M_emits 14 0 τ3) (fun _ σ => B_M_clause_290 σ) = some (0, τ') ∧ ((∃ s' m, 1 ≤ m ∧ s + m + 1 ≤ s' ∧ CSt B n t σ0 τ0 c0 I R s' (c0 + m + 1) (upd row 5 (nI (rws σ0 5 + m))) σ' τ' ∧ rws σ' 5 = rws σ0 5 + m ∧ FrM [23, 24, 25, 26, 27] [35, 36] τ τ' ∧ CodB σ' τ' t R I bb (c0 + m + 1)) ∨ BSt B n t σ0 τ0 c0 I R σ' τ') := by
  obtain ⟨r, σ3, v, τ3, g1, g2, g3, g4⟩ := hS s c0 σ τ h.1 hc (by omega)
  refine ⟨r, σ3, v, τ3, g1, g2, ?_⟩
  rcases g4 with ⟨rfl, s3, m, q1, q2, q3, q4, q5⟩ | ⟨rfl, q⟩
  rotate_left
  · have B1 := h.bad g3 q (Nat.le_refl _)
    obtain ⟨σ', w1, w2, w3⟩ := tail_bad B1 hR
    rw [if_pos rfl, q.1.emits, bnd_s]
    exact ⟨σ', τ3, w1, w2, Or.inr w3⟩
  have hl := q3.le
  obtain ⟨τ4, e1, e2, e3, e4⟩ := endM q3 ht (by omega)
  have C3 := (h.kep g3 q3 (Nat.le_refl _)).kep e3 e2 (by omega)
  obtain ⟨σ', τ', w1, w2, w3⟩ := tail_ok C3 hR (by omega)
  rw [if_neg i10, e1, bnd_s]
  refine ⟨σ', τ', w1, w2, ?_⟩
  rcases w3 with ⟨s', u1, u2, u3, u4, u5⟩ | w3
  rotate_left
  · exact Or.inr w3
  left
  have em : rws σ3 5 = rws σ0 5 + m := by omega
  rw [em] at u2
  have fr : FrM [23, 24, 25, 26, 27] [35, 36] τ τ' := g3.2.1.trans (e3.2.1.trans (u5.mono (by decide) (by decide)))
  refine ⟨s', m, q1, by omega, u2, by omega, fr, rws σ0 5, m, c0, M, fun j => gN σ3 (rws σ0 5 + j), q1, ?_, ?_, by omega, ?_, by omega, fun j hj => ?_, ?_, by rw [r0] at q5; exact q5.2, hM⟩
  · rw [u2.2.2.2 4 (by omega)]
    unfold upd
    rw [if_neg (by omega), r4]
  · rw [u2.2.2.2 5 (by omega)]
    unfold upd
    rw [if_pos rfl]
  · rw [fr.2 32 (by decide)]; exact e32
  · rw [u4, u5.2 35 (by decide), u5.2 36 (by decide)]
    have := q5.1 j hj
    rw [r0] at this
    rw [(e3.2.2.2.2.2 (450 * t + c0 + j) (by omega)).1, (e3.2.2.2.2.2 (450 * t + c0 + j) (by omega)).2]
    exact this
  · rw [u5.2 35 (by decide), show 450 * t + c0 + m = 450 * t + (c0 + m) by omega]
    exact e4
theorem lo3 {j : Nat} (h : j ≤ 3) : ¬ 3 < nI j := fun z => absurd ((lit_lt 3 (by omega) (by omega)).1 z) (by omega)
theorem cln_act {σ τ : CS} {k r i C a j : Nat} (e30 : τ.2.1 30 i = nI j) (hj : j ≤ 3) (e31 : τ.2.1 31 i = nI a) (ha : a ≤ 5) (r0 : cel σ 4 r 0 = nI t) (r1 : cel σ 4 r 1 = nI k) (r2 : cel σ 4 r 2 = nI j) (r3 : cel σ 4 r 3 = nI a) (h3 : j = 3 → CodB σ τ t r i false C) (h1 : j ≤ 1 → (τ.2.1 32 i = -1 ∧ cel σ 4 r 4 = cel σ 4 r 5) ∨ CodB σ τ t r i true C) : Cln σ τ t k r i C := by
  have ne : ∀ m : Nat, 3 < m → m ≤ 7 → ¬ nI j = nI m := fun m h1 h2 z => by have := nI_eqI (by omega) (by omega) z; omega
  unfold Cln Kok
  rw [e30, e31, r2, r3]
  refine ⟨⟨r0, r1, rfl⟩, fun _ => rfl, fun z => absurd z (lo3 hj), fun z => h3 (nI_eqI (b := 3) (by omega) (by omega) z), fun z => h1 ?_, ⟨⟨j, by omega, rfl⟩, fun z => absurd z (ne 4 (by omega) (by omega)), fun z => absurd z (ne 5 (by omega) (by omega)), fun z => absurd z (ne 6 (by omega) (by omega)), fun z => absurd z (ne 7 (by omega) (by omega)), fun _ => ⟨a, ha, rfl⟩⟩, fun z => ?_, fun z => absurd z (ne 6 (by omega) (by omega))⟩
  · rcases z with z | z
    · have := nI_eqI (b := 0) (by omega) (by omega) z; omega
    · have := nI_eqI (b := 1) (by omega) (by omega) z; omega
  · rcases z with z | z | z
    · exact absurd z (ne 4 (by omega) (by omega))
    · exact absurd z (ne 5 (by omega) (by omega))
    · exact absurd z (ne 7 (by omega) (by omega))
theorem b138_lo {j : Nat} (hj : j ≤ 3) (x : Int32) (τ : CS) : B_M_clause_138 x (nI j) τ = B_M_clause_290 τ := by
  have ne : ∀ m : Nat, 3 < m → m ≤ 7 → ¬ nI j = nI m := fun m h1 h2 z => by have := nI_eqI (by omega) (by omega) z; omega
  unfold B_M_clause_138
  rw [if_neg (show ¬ nI j = 4 from ne 4 (by omega) (by omega)), if_neg (show ¬ nI j = 5 from ne 5 (by omega) (by omega)), if_neg (show ¬ nI j = 6 from ne 6 (by omega) (by omega)), if_neg (show ¬ nI j = 7 from ne 7 (by omega) (by omega))]
theorem bst_64 {j : Nat} {σ τ : CS} (h : BSt B n t σ0 τ0 c0 I R σ τ) (hj : j ≤ 3) (hI : I < 120) : ∃ τ', B_M_clause_64 (nI I) (nI j) τ = some (0, τ') ∧ BSt B n t σ0 τ0 c0 I R σ τ' := by
  have e290 : ∀ {τ'}, Ddm B n τ' → B_M_clause_290 τ' = some (0, τ') := fun d => by
    unfold B_M_clause_290
    rw [d.sign, bnd_s]
  unfold B_M_clause_64
  by_cases q : j = 3
  · subst q
    rw [if_pos (show nI 3 = (3 : Int32) from rfl), h.1.1.sign, bnd_s, gix_n hI (by omega), wrn (by omega)]
    have B2 := h.wr (a := 32) (by omega) (by omega) (τ.1 27)
    obtain ⟨v, τ3, g1, g2, g3⟩ := (show DdS B n (g_MP 100 0) from dead_0 B n 97) _ B2.1.1
    rw [g1, bnd_s, g3.emits, bnd_s, e290 g3]
    exact ⟨τ3, rfl, B2.dd g2 g3⟩
  rw [if_neg (show ¬ nI j = 3 from fun z => q (nI_eqI (b := 3) (by omega) (by omega) z))]
  by_cases q1 : 1 < j
  · rw [if_pos ((lit_lt 1 (by omega) (by omega)).2 q1), b138_lo hj, e290 h.1.1]
    exact ⟨τ, rfl, h⟩
  · rw [if_neg (fun z => q1 ((lit_lt 1 (by omega) (by omega)).1 z)), h.1.1.eat, bnd_s, if_pos rfl, b138_lo hj, e290 h.1.1]
    exact ⟨τ, rfl, h⟩
theorem FrM.a30 {τ τ' : CS} {I' : List Nat} {A : List Nat} (f : FrM I' A τ τ') (h : ∀ a, a ∈ A → a < 30 ∨ 34 < a) {a : Nat} (h1 : 30 ≤ a) (h2 : a ≤ 34) : τ'.2.1 a = τ.2.1 a := f.2 a (fun z => by have := h a z; omega)
/-- bar, allow -/
theorem kind_if {s0 k j s : Nat} {row : Nat → Int32} {σ τ : CS} (h : Beg B n t σ0 τ0 c0 I R s0 k j s row σ τ) (hj : j ≤ 1) (hR : rws σ0 4 = R) (ht : t < 10) (hI : I < 120) : ∃ v1 σ' v2 τ', bnd (f_Reader_readAct (nI R) σ) (fun r151 σ151 => if r151 = 0 then B_Reader_readClause_331 (nI R) 0 σ151 else bnd (f_Reader_takeWord 5 σ151) (fun r160 σ160 => if r160 = (-1) then B_Reader_readClause_331 (nI R) 1 σ160 else bnd (g_R 100 0 0 0 σ160) (fun r169 σ169 => if r169 = 0 then B_Reader_readClause_331 (nI R) 0 σ169 else B_Reader_readClause_331 (nI R) 1 σ169))) = some (v1, σ') ∧ bnd (f_M_act τ) (fun r60 σ60 => gix (nI I) 120 (B_M_clause_64 (nI I) (nI j) (wr σ60 31 (nI I) r60))) = some (v2, τ') ∧ Fin B n t σ0 τ0 c0 I R s0 k σ' τ' := by
  obtain ⟨hC, hs, r5, e30, e32, w0, w1, w2, w3, w4, hc, hr⟩ := h
  rcases act_ag hC hR with ⟨a, s1, σ1, τ1, a1, a2, a3, a4, a5, a6, a7⟩ | ⟨v, σ1, τ1, a3, a4, a5⟩
  rotate_left
  · obtain ⟨σ', u1, u2, u3⟩ := tail_bad a5 hR
    have b1 := u3.wr (a := 31) (by omega) (by omega) v
    obtain ⟨τ', x1, x2⟩ := bst_64 b1 (j := j) (by omega) hI
    rw [a3, a4, bnd_s, bnd_s, if_pos rfl, u1, gix_n hI (by omega), wrn (by omega), x1]
    exact ⟨0, σ', 0, τ', rfl, rfl, x2.fin⟩
  have C2 := a5.wr (a := 31) (by omega) (by omega) (nI a)
  have hl := a5.1.le
  have f31 : (sA τ1 31 (upd (τ1.2.1 31) I (nI a))).2.1 31 I = nI a := by simp [va_up, upd]
  have f30 : (sA τ1 31 (upd (τ1.2.1 31) I (nI a))).2.1 30 I = nI j := by
    simp only [va_up, reduceIte, Nat.reduceEqDiff]
    rw [a7.2 30 (by decide)]; exact e30
  have f32 : (sA τ1 31 (upd (τ1.2.1 31) I (nI a))).2.1 32 I = -1 := by
    simp only [va_up, reduceIte, Nat.reduceEqDiff]
    rw [a7.2 32 (by decide)]; exact e32
  have ef : fwd B n s1 ((lw 5).map ws) 0 = if isWb B n (ws 34) s1 = true then some (0, (ws 34).length) else none := rfl
  rw [a3, a4, bnd_s, bnd_s, if_neg i10, gix_n hI (by omega), wrn (by omega)]
  generalize hτ2 : sA τ1 31 (upd (τ1.2.1 31) I (nI a)) = τ2 at *
  unfold B_M_clause_64
  rw [if_neg (show ¬ nI j = 3 from fun z => by have := nI_eqI (b := 3) (by omega) (by omega) z; omega), if_neg (fun z => absurd ((lit_lt 1 (by omega) (by omega)).1 z) (by omega)), C2.1.eat (u := 34) (by omega)]
  have tw := C2.1.takeWord (w := 5) (by omega) (by omega)
  rw [ef] at tw
  by_cases q : isWb B n (ws 34) s1 = true
  rotate_left
  · -- without if
    rw [if_neg q] at tw ⊢
    rcases tw with ⟨j', l', u1, -⟩ | ⟨-, u1⟩
    · cases u1
    have C3 := C2.kep (Kep.go t c0 C2.1.1.1 s1 s1) C2.1.here (Nat.le_refl _)
    obtain ⟨σ', τ', x1, x2, x3⟩ := tail_ok C3 hR (Nat.le_refl _)
    rw [u1, bnd_s, if_pos rfl, x1, bnd_s, if_pos rfl, b138_lo (by omega), x2]
    refine ⟨0, σ', 0, τ', rfl, rfl, ?_⟩
    rcases x3 with ⟨s', y1, y2, y3, y4, y5⟩ | x3
    rotate_left
    · exact x3.fin
    have er : rws (Att σ1 s1) 5 = rws σ0 5 := by
      show rws σ1 5 = _
      omega
    have ft : ∀ a, 30 ≤ a → a ≤ 34 → τ'.2.1 a = τ2.2.1 a := fun a h1 h2 => by
      rw [y5.2 a (by simp)]
    refine ⟨y2.2.1, y2.2.2.1, Or.inl ⟨s', c0, by omega, y2.1, Nat.le_refl _, by omega, by omega, ?_⟩⟩
    refine cln_act (a := a) (j := j) ((congrFun (ft 30 (by omega) (by omega)) I).trans f30) (by omega) ((congrFun (ft 31 (by omega) (by omega)) I).trans f31) a1 ?_ ?_ ?_ ?_ (fun z => by omega) (fun _ => Or.inl ⟨(congrFun (ft 32 (by omega) (by omega)) I).trans f32, ?_⟩)
    · rw [y2.2.2.2 0 (by omega)]; simp [upd, w0]
    · rw [y2.2.2.2 1 (by omega)]; simp [upd, w1]
    · rw [y2.2.2.2 2 (by omega)]; simp [upd, w2]
    · rw [y2.2.2.2 3 (by omega)]; simp [upd]
    · rw [y2.2.2.2 4 (by omega), y2.2.2.2 5 (by omega)]; simp [upd, w4, er]
  rw [if_pos q] at tw ⊢
  rcases tw with ⟨j', l', u1, u2, u3⟩ | ⟨u1, -⟩
  rotate_left
  · cases u1
  simp only [Option.some.injEq, Prod.mk.injEq] at u1
  obtain ⟨rfl, rfl⟩ := u1
  have hge := sk_ge (B := B) u2
  have C3 := C2.kep (Kep.go t c0 C2.1.1.1 _ _) (C2.1.on u2) (Nat.le_refl _)
  have e27 : (Bam τ2 (s1 + (ws 34).length)).1 27 = nI c0 := C3.1.2.2.2.2.2.2.1
  have C4 := C3.wr (a := 32) (by omega) (by omega) (nI c0)
  have sp : Spc B n t 0 (fun σ => g_R 100 0 0 0 σ) (fun τ => g_MP 100 3 τ) (6 + 3 * (8 - 0)) true := (readers (B := B) (n := n) ht 100 100 0 (by omega)).2.2.2.2.2 (by omega) (by omega)
  obtain ⟨r, σ3, v, τ3, g1, g2, σ', τ', g3, g4, g5⟩ := code_ag C4 hR (by simp [va_up, upd]) (by simp [upd, w4]) (by show rws σ1 5 = _; omega) ht (by omega) (by omega) sp (by omega)
  have g1' : g_R 100 0 0 0 (Att σ1 (s1 + (ws 34).length)) = some (r, σ3) := g1
  have g2' : g_MP 100 3 (sA (Bam τ2 (s1 + (ws 34).length)) 32 (upd ((Bam τ2 (s1 + (ws 34).length)).2.1 32) I (nI c0))) = some (v, τ3) := g2
  rw [u3, bnd_s, if_neg (by decide), g1', bnd_s, g3, bnd_s, if_neg i10, gix_n hI (by omega), wrn (by omega), e27, g2', bnd_s, g4]
  refine ⟨0, σ', 0, τ', rfl, rfl, ?_⟩
  rcases g5 with ⟨s', m, y1, y2, y3, y4, y5, y6⟩ | g5
  rotate_left
  · exact g5.fin
  refine ⟨y3.2.1, y3.2.2.1, Or.inl ⟨s', c0 + m + 1, by omega, y3.1, by omega, by omega, by omega, ?_⟩⟩
  refine cln_act (a := a) (j := j) ?_ (by omega) ?_ a1 ?_ ?_ ?_ ?_ (fun z => by omega) (fun _ => Or.inr y6)
  · rw [y5.2 30 (by decide)]; simp only [va_up, reduceIte, Nat.reduceEqDiff]; exact f30
  · rw [y5.2 31 (by decide)]; simp only [va_up, reduceIte, Nat.reduceEqDiff]; exact f31
  · rw [y3.2.2.2 0 (by omega)]; simp [upd, w0]
  · rw [y3.2.2.2 1 (by omega)]; simp [upd, w1]
  · rw [y3.2.2.2 2 (by omega)]; simp [upd, w2]
  · rw [y3.2.2.2 3 (by omega)]; simp [upd]
/-- strike -/
theorem kind_strike {s0 k s : Nat} {row : Nat → Int32} {σ τ : CS} (h : Beg B n t σ0 τ0 c0 I R s0 k 2 s row σ τ) (hR : rws σ0 4 = R) (hI : I < 120) : ∃ v1 σ' v2 τ', bnd (f_Reader_readAct (nI R) σ) (fun r188 σ188 => B_Reader_readClause_331 (nI R) r188 σ188) = some (v1, σ') ∧ bnd (f_M_act τ) (fun r60 σ60 => gix (nI I) 120 (B_M_clause_64 (nI I) (nI 2) (wr σ60 31 (nI I) r60))) = some (v2, τ') ∧ Fin B n t σ0 τ0 c0 I R s0 k σ' τ' := by
  obtain ⟨hC, hs, r5, e30, e32, w0, w1, w2, w3, w4, hc, hr⟩ := h
  rcases act_ag hC hR with ⟨a, s1, σ1, τ1, a1, a2, a3, a4, a5, a6, a7⟩ | ⟨v, σ1, τ1, a3, a4, a5⟩
  rotate_left
  · obtain ⟨σ', u1, u2, u3⟩ := tail_bad a5 hR
    have b1 := u3.wr (a := 31) (by omega) (by omega) v
    obtain ⟨τ', x1, x2⟩ := bst_64 b1 (j := 2) (by omega) hI
    rw [a3, a4, bnd_s, bnd_s, u1, gix_n hI (by omega), wrn (by omega), x1]
    exact ⟨0, σ', 0, τ', rfl, rfl, x2.fin⟩
  have C2 := a5.wr (a := 31) (by omega) (by omega) (nI a)
  have hl := a5.1.le
  obtain ⟨σ', τ', x1, x2, x3⟩ := tail_ok C2 hR (Nat.le_refl _)
  have e64 : B_M_clause_64 (nI I) (nI 2) (sA τ1 31 (upd (τ1.2.1 31) I (nI a))) = some (0, τ') := by
    unfold B_M_clause_64
    rw [if_neg (by decide), if_pos (by decide), b138_lo (by omega), x2]
  rw [a3, a4, bnd_s, bnd_s, x1, gix_n hI (by omega), wrn (by omega), e64]
  refine ⟨0, σ', 0, τ', rfl, rfl, ?_⟩
  rcases x3 with ⟨s', y1, y2, y3, y4, y5⟩ | x3
  rotate_left
  · exact x3.fin
  refine ⟨y2.2.1, y2.2.2.1, Or.inl ⟨s', c0, by omega, y2.1, Nat.le_refl _, by omega, by omega, ?_⟩⟩
  refine cln_act (a := a) (j := 2) ?_ (by omega) ?_ a1 ?_ ?_ ?_ ?_ (fun z => by omega) (fun z => by omega)
  · rw [y5.2 30 (by decide)]; simp only [va_up, reduceIte, Nat.reduceEqDiff]; rw [a7.2 30 (by decide)]; exact e30
  · rw [y5.2 31 (by decide)]; simp [va_up, upd]
  · rw [y2.2.2.2 0 (by omega)]; simp [upd, w0]
  · rw [y2.2.2.2 1 (by omega)]; simp [upd, w1]
  · rw [y2.2.2.2 2 (by omega)]; simp [upd, w2]
  · rw [y2.2.2.2 3 (by omega)]; simp [upd]
/-- fine -/
theorem kind_fine {s0 k s : Nat} {row : Nat → Int32} {σ τ : CS} (h : Beg B n t σ0 τ0 c0 I R s0 k 3 s row σ τ) (hR : rws σ0 4 = R) (ht : t < 10) (hI : I < 120) : ∃ v1 σ' v2 τ', bnd (f_Reader_readAct (nI R) σ) (fun r199 σ199 => if r199 = 0 then B_Reader_readClause_331 (nI R) 0 σ199 else bnd (f_Reader_needSign 61 σ199) (fun r208 σ208 => if r208 = 0 then B_Reader_readClause_331 (nI R) 0 σ208 else bnd (g_R 100 3 0 0 σ208) (fun r216 σ216 => if r216 = 0 then B_Reader_readClause_331 (nI R) 0 σ216 else B_Reader_readClause_331 (nI R) 1 σ216))) = some (v1, σ') ∧ bnd (f_M_act τ) (fun r60 σ60 => gix (nI I) 120 (B_M_clause_64 (nI I) (nI 3) (wr σ60 31 (nI I) r60))) = some (v2, τ') ∧ Fin B n t σ0 τ0 c0 I R s0 k σ' τ' := by
  obtain ⟨hC, hs, r5, e30, e32, w0, w1, w2, w3, w4, hc, hr⟩ := h
  rcases act_ag hC hR with ⟨a, s1, σ1, τ1, a1, a2, a3, a4, a5, a6, a7⟩ | ⟨v, σ1, τ1, a3, a4, a5⟩
  rotate_left
  · obtain ⟨σ', u1, u2, u3⟩ := tail_bad a5 hR
    have b1 := u3.wr (a := 31) (by omega) (by omega) v
    obtain ⟨τ', x1, x2⟩ := bst_64 b1 (j := 3) (by omega) hI
    rw [a3, a4, bnd_s, bnd_s, if_pos rfl, u1, gix_n hI (by omega), wrn (by omega), x1]
    exact ⟨0, σ', 0, τ', rfl, rfl, x2.fin⟩
  have C2 := a5.wr (a := 31) (by omega) (by omega) (nI a)
  have hl := a5.1.le
  have f31 : (sA τ1 31 (upd (τ1.2.1 31) I (nI a))).2.1 31 I = nI a := by simp [va_up, upd]
  have f30 : (sA τ1 31 (upd (τ1.2.1 31) I (nI a))).2.1 30 I = nI 3 := by
    simp only [va_up, reduceIte, Nat.reduceEqDiff]
    rw [a7.2 30 (by decide)]; exact e30
  rw [a3, a4, bnd_s, bnd_s, if_neg i10, gix_n hI (by omega), wrn (by omega)]
  generalize hτ2 : sA τ1 31 (upd (τ1.2.1 31) I (nI a)) = τ2 at *
  have ns : f_Reader_needSign 61 σ1 = if bt B n s1 = 61 then some (1, Att σ1 (s1 + 1)) else some (0, Fai (Att σ1 s1) 1 s1) := C2.1.needSign 61 (by omega) (by omega)
  have sg : f_M_sign 61 τ2 = if bt B n s1 = 61 then some (0, Bam τ2 (s1 + 1)) else some (0, FaM (Bam τ2 s1) 1 s1) := C2.1.sign 61 (by omega) (by omega)
  have x3 : nI 3 = (3 : Int32) := rfl
  unfold B_M_clause_64
  rw [if_pos x3, ns, sg]
  by_cases q : bt B n s1 = 61
  rotate_left
  · obtain ⟨b1, b2⟩ := Bad.mk (k := 1) (p := s1) (q := s1) C2.1 (by omega) (by omega) hl.1 hl.1
    have B1 := C2.bad b2 b1 (Nat.le_refl _)
    obtain ⟨σ', u1, -, u3⟩ := tail_bad B1 hR
    have B2 := u3.wr (a := 32) (by omega) (by omega) ((FaM (Bam τ2 s1) 1 s1).1 27)
    obtain ⟨v, τ3, g1, g2, g3⟩ := (show DdS B n (g_MP 100 0) from dead_0 B n 97) _ B2.1.1
    have e290 : B_M_clause_290 τ3 = some (0, τ3) := by
      unfold B_M_clause_290
      rw [g3.sign, bnd_s]
    rw [if_neg q, if_neg q, bnd_s, bnd_s, if_pos rfl, u1, gix_n hI (by omega), wrn (by omega), g1, bnd_s, g3.emits, bnd_s, e290]
    exact ⟨0, σ', 0, τ3, rfl, rfl, (B2.dd g2 g3).fin⟩
  have hs1 := bt_in q (by omega)
  have hge := sk_ge (B := B) (a := s1 + 1) (n := n) (by omega)
  have C3 := C2.kep (Kep.go t c0 C2.1.1.1 (s1 + 1) (s1 + 1)) (C2.1.on (by omega)) (Nat.le_refl _)
  have e27 : (Bam τ2 (s1 + 1)).1 27 = nI c0 := C3.1.2.2.2.2.2.2.1
  have C4 := C3.wr (a := 32) (by omega) (by omega) (nI c0)
  have sp : Spc B n t 0 (fun σ => g_R 100 3 0 0 σ) (fun τ => g_MP 100 0 τ) (3 + 3 * (8 - 0)) false := (readers (B := B) (n := n) ht 100 100 0 (by omega)).2.2.1 (by omega) (by omega)
  obtain ⟨r, σ3, v, τ3, g1, g2, σ', τ', g3, g4, g5⟩ := code_ag C4 hR (by simp [va_up, upd]) (by simp [upd, w4]) (by show rws σ1 5 = _; omega) ht (by omega) (by omega) sp (by omega)
  have g1' : g_R 100 3 0 0 (Att σ1 (s1 + 1)) = some (r, σ3) := g1
  have g2' : g_MP 100 0 (sA (Bam τ2 (s1 + 1)) 32 (upd ((Bam τ2 (s1 + 1)).2.1 32) I (nI c0))) = some (v, τ3) := g2
  rw [if_pos q, if_pos q, bnd_s, bnd_s, if_neg i10, g1', bnd_s, g3, gix_n hI (by omega), wrn (by omega), e27, g2', bnd_s, g4]
  refine ⟨0, σ', 0, τ', rfl, rfl, ?_⟩
  rcases g5 with ⟨s', m, y1, y2, y3, y4, y5, y6⟩ | g5
  rotate_left
  · exact g5.fin
  refine ⟨y3.2.1, y3.2.2.1, Or.inl ⟨s', c0 + m + 1, by omega, y3.1, by omega, by omega, by omega, ?_⟩⟩
  refine cln_act (a := a) (j := 3) ?_ (by omega) ?_ a1 ?_ ?_ ?_ ?_ (fun _ => y6) (fun z => by omega)
  · rw [y5.2 30 (by decide)]; simp only [va_up, reduceIte, Nat.reduceEqDiff]; exact f30
  · rw [y5.2 31 (by decide)]; simp only [va_up, reduceIte, Nat.reduceEqDiff]; exact f31
  · rw [y3.2.2.2 0 (by omega)]; simp [upd, w0]
  · rw [y3.2.2.2 1 (by omega)]; simp [upd, w1]
  · rw [y3.2.2.2 2 (by omega)]; simp [upd, w2]
  · rw [y3.2.2.2 3 (by omega)]; simp [upd]
