/-! ===== layer 2: texts are read; all kinds of clauses, one clause ===== -/
variable {B : Nat → Nat} {n t c0 I R : Nat} {σ0 τ0 : CS}
theorem hi3 {j : Nat} (h : 4 ≤ j) (h2 : j ≤ 7) : 3 < nI j := (lit_lt 3 (by omega) (by omega)).2 (by omega)
theorem ne_nI {j m : Nat} (hj : j ≤ 7) (hm : m ≤ 7) (h : j ≠ m) : ¬ nI j = nI m := fun z => h (nI_eqI (by omega) (by omega) z)
theorem b64_hi {j : Nat} (h : 4 ≤ j) (h2 : j ≤ 7) (x : Int32) (τ : CS) : B_M_clause_64 x (nI j) τ = B_M_clause_138 x (nI j) τ := by
  unfold B_M_clause_64
  rw [if_neg (show ¬ nI j = 3 from ne_nI (m := 3) h2 (by omega) (by omega)), if_pos ((lit_lt 1 (by omega) (by omega)).2 (by omega))]
theorem cln_num {σ τ : CS} {k r i C j : Nat} (e30 : τ.2.1 30 i = nI j) (hj : 4 ≤ j) (hj2 : j ≤ 7) (r0 : cel σ 4 r 0 = nI t) (r1 : cel σ 4 r 1 = nI k) (r2 : cel σ 4 r 2 = nI j) (r3 : cel σ 4 r 3 = -1) (h4 : j = 4 → Ix (τ.2.1 31 i) t) (h5 : j = 5 → Rg (τ.2.1 31 i) 1) (h6 : j = 6 → P4 (τ.2.1 31 i) 4000 ∧ P4 (τ.2.1 33 i) 4000 ∧ P4 (τ.2.1 34 i) 4000) (h7 : j = 7 → P4 (τ.2.1 31 i) 60) (r6 : cel σ 4 r 6 = τ.2.1 31 i) (r78 : j = 6 → cel σ 4 r 7 = τ.2.1 33 i ∧ cel σ 4 r 8 = τ.2.1 34 i) : Cln σ τ t k r i C := by
  unfold Cln Kok
  rw [e30, r2, r3]
  refine ⟨⟨r0, r1, rfl⟩, fun z => absurd (hi3 hj hj2) z, fun _ => rfl, fun z => absurd z (ne_nI (m := 3) hj2 (by omega) (by omega)), fun z => ?_, ⟨⟨j, by omega, rfl⟩, fun z => h4 (nI_eqI (b := 4) (by omega) (by omega) z), fun z => h5 (nI_eqI (b := 5) (by omega) (by omega) z), fun z => h6 (nI_eqI (b := 6) (by omega) (by omega) z), fun z => h7 (nI_eqI (b := 7) (by omega) (by omega) z), fun z => absurd (hi3 hj hj2) z⟩, fun _ => r6, fun z => ⟨r6, r78 (nI_eqI (b := 6) (by omega) (by omega) z)⟩⟩
  rcases z with z | z
  · exact absurd z (ne_nI (m := 0) hj2 (by omega) (by omega))
  · exact absurd z (ne_nI (m := 1) hj2 (by omega) (by omega))
/-- undo, use -/
theorem kind_num {s0 k j s l h : Nat} {row : Nat → Int32} {σ τ : CS} {lo hi : Int32} (hB : Beg B n t σ0 τ0 c0 I R s0 k j s row σ τ) (hj : (j = 4 ∧ h = t) ∨ (j = 7 ∧ l = 1 ∧ h = 61)) (hR : rws σ0 4 = R) (hI : I < 120) (hlo : lo = nI l) (hl : l ≤ 1) (hhi : hi = nI h - 1) (hh : h ≤ 10000) : ∃ v1 σ' v2 τ', bnd (f_Reader_readNumber (nI R) 6 lo hi σ) (fun r244 σ244 => B_Reader_readClause_331 (nI R) r244 σ244) = some (v1, σ') ∧ bnd (f_M_figures lo hi τ) (fun r156 σ156 => gix (nI I) 120 (B_M_clause_290 (wr σ156 31 (nI I) r156))) = some (v2, τ') ∧ Fin B n t σ0 τ0 c0 I R s0 k σ' τ' := by
  obtain ⟨hC, hs, r5, e30, e32, w0, w1, w2, w3, w4, hc, hr⟩ := hB
  have hjb : 4 ≤ j ∧ j ≤ 7 := by omega
  rcases num_ag (ce := 6) hC hR (e := 6) (by omega) rfl hlo hl hhi hh with ⟨a, s1, σ1, τ1, a1, a1', a2, a3, a4, a5, a6, a7⟩ | ⟨v, σ1, τ1, a3, a4, a5⟩
  rotate_left
  · obtain ⟨σ', u1, u2, u3⟩ := tail_bad a5 hR
    have b1 := u3.wr (a := 31) (by omega) (by omega) v
    have e290 : B_M_clause_290 (sA τ1 31 (upd (τ1.2.1 31) I v)) = some (0, sA τ1 31 (upd (τ1.2.1 31) I v)) := by
      unfold B_M_clause_290
      rw [b1.1.1.sign, bnd_s]
    rw [a3, a4, bnd_s, bnd_s, u1, gix_n hI (by omega), wrn (by omega), e290]
    exact ⟨0, σ', 0, _, rfl, rfl, b1.fin⟩
  have C2 := a5.wr (a := 31) (by omega) (by omega) (nI a)
  have hl' := a5.1.le
  obtain ⟨σ', τ', x1, x2, x3⟩ := tail_ok C2 hR (Nat.le_refl _)
  rw [a3, a4, bnd_s, bnd_s, x1, gix_n hI (by omega), wrn (by omega), x2]
  refine ⟨0, σ', 0, τ', rfl, rfl, ?_⟩
  rcases x3 with ⟨s', y1, y2, y3, y4, y5⟩ | x3
  rotate_left
  · exact x3.fin
  refine ⟨y2.2.1, y2.2.2.1, Or.inl ⟨s', c0, by omega, y2.1, Nat.le_refl _, by omega, by omega, ?_⟩⟩
  have e31 : τ'.2.1 31 I = nI a := by rw [y5.2 31 (by decide)]; simp [va_up, upd]
  refine cln_num (j := j) ?_ hjb.1 hjb.2 ?_ ?_ ?_ ?_ (fun z => ⟨a, by omega, e31⟩) (fun z => by omega) (fun z => by omega) (fun z => ⟨a, by omega, by omega, e31⟩) ?_ (fun z => by omega)
  · rw [y5.2 30 (by decide)]; simp only [va_up, reduceIte, Nat.reduceEqDiff]; rw [a7.2 30 (by decide)]; exact e30
  · rw [y2.2.2.2 0 (by omega)]; simp [upd, w0]
  · rw [y2.2.2.2 1 (by omega)]; simp [upd, w1]
  · rw [y2.2.2.2 2 (by omega)]; simp [upd, w2]
  · rw [y2.2.2.2 3 (by omega)]; simp [upd, w3]
  · rw [y2.2.2.2 6 (by omega), e31]; simp [upd]
theorem bst_fig {σ τ : CS} (h : BSt B n t σ0 τ0 c0 I R σ τ) : B_M_clause_290 τ = some (0, τ) := by
  unfold B_M_clause_290
  rw [h.1.1.sign, bnd_s]
/-- courts -/
theorem kind_courts {s0 k s : Nat} {row : Nat → Int32} {σ τ : CS} (hB : Beg B n t σ0 τ0 c0 I R s0 k 6 s row σ τ) (hR : rws σ0 4 = R) (hI : I < 120) : ∃ v1 σ' v2 τ', bnd (f_Reader_readNumber (nI R) 6 1 4000 σ) (fun r272 σ272 => if r272 = 0 then B_Reader_readClause_331 (nI R) 0 σ272 else bnd (f_Reader_readNumber (nI R) 7 1 4000 σ272) (fun r287 σ287 => if r287 = 0 then B_Reader_readClause_331 (nI R) 0 σ287 else bnd (f_Reader_readNumber (nI R) 8 1 4000 σ287) (fun r302 σ302 => if r302 = 0 then B_Reader_readClause_331 (nI R) 0 σ302 else B_Reader_readClause_331 (nI R) 1 σ302))) = some (v1, σ') ∧ bnd (f_M_figures 1 4000 τ) (fun r236 σ236 => gix (nI I) 120 (bnd (f_M_figures 1 4000 (wr σ236 31 (nI I) r236)) (fun r250 σ250 => gix (nI I) 120 (bnd (f_M_figures 1 4000 (wr σ250 33 (nI I) r250)) (fun r264 σ264 => gix (nI I) 120 (B_M_clause_290 (wr σ264 34 (nI I) r264))))))) = some (v2, τ') ∧ Fin B n t σ0 τ0 c0 I R s0 k σ' τ' := by
  obtain ⟨hC, hs, r5, e30, e32, w0, w1, w2, w3, w4, hc, hr⟩ := hB
  have h4000 : (4000 : Int32) = nI 4001 - 1 := by decide
  have gI : ∀ {X : Type} (o : Option X), gix (nI I) 120 o = o := fun o => gix_n hI (by omega)
  have wI : ∀ (υ : CS) a v, wr υ a (nI I) v = sA υ a (upd (υ.2.1 a) I v) := fun υ a v => wrn (by omega) υ a v
  simp only [gI, wI]
  rcases num_ag (ce := 6) (lo := 1) (hi := 4000) (l := 1) (h := 4001) hC hR (e := 6) (by omega) rfl rfl (by omega) h4000 (by omega) with ⟨a, s1, σ1, τ1, a1, a1', a2, a3, a4, a5, a6, a7⟩ | ⟨v, σ1, τ1, a3, a4, a5⟩
  rotate_left
  · obtain ⟨σ', u1, u2, u3⟩ := tail_bad a5 hR
    have b1 := u3.wr (a := 31) (by omega) (by omega) v
    have b2 := b1.wr (a := 33) (by omega) (by omega) 0
    have b3 := b2.wr (a := 34) (by omega) (by omega) 0
    rw [a3, bnd_s, if_pos rfl, u1, a4, bnd_s, b1.1.1.figures, bnd_s, b2.1.1.figures, bnd_s, bst_fig b3]
    exact ⟨0, σ', 0, _, rfl, rfl, b3.fin⟩
  have C2 := a5.wr (a := 31) (by omega) (by omega) (nI a)
  rw [a3, bnd_s, if_neg i10, a4, bnd_s]
  rcases num_ag (ce := 7) (lo := 1) (hi := 4000) (l := 1) (h := 4001) C2 hR (e := 7) (by omega) rfl rfl (by omega) h4000 (by omega) with ⟨b, s2, σ2, τ2, b1, b1', b2, b3, b4, b5, b6, b7⟩ | ⟨v, σ2, τ2, b3, b4, b5⟩
  rotate_left
  · obtain ⟨σ', u1, u2, u3⟩ := tail_bad b5 hR
    have d1 := u3.wr (a := 33) (by omega) (by omega) v
    have d2 := d1.wr (a := 34) (by omega) (by omega) 0
    rw [b3, bnd_s, if_pos rfl, u1, b4, bnd_s, d1.1.1.figures, bnd_s, bst_fig d2]
    exact ⟨0, σ', 0, _, rfl, rfl, d2.fin⟩
  have C3 := b5.wr (a := 33) (by omega) (by omega) (nI b)
  rw [b3, bnd_s, if_neg i10, b4, bnd_s]
  rcases num_ag (ce := 8) (lo := 1) (hi := 4000) (l := 1) (h := 4001) C3 hR (e := 8) (by omega) rfl rfl (by omega) h4000 (by omega) with ⟨d, s3, σ3, τ3, d1, d1', d2, d3, d4, d5, d6, d7⟩ | ⟨v, σ3, τ3, d3, d4, d5⟩
  rotate_left
  · obtain ⟨σ', u1, u2, u3⟩ := tail_bad d5 hR
    have e1 := u3.wr (a := 34) (by omega) (by omega) v
    rw [d3, bnd_s, if_pos rfl, u1, d4, bnd_s, bst_fig e1]
    exact ⟨0, σ', 0, _, rfl, rfl, e1.fin⟩
  have C4 := d5.wr (a := 34) (by omega) (by omega) (nI d)
  have hl' := d5.1.le
  obtain ⟨σ', τ', x1, x2, x3⟩ := tail_ok C4 hR (Nat.le_refl _)
  rw [d3, bnd_s, if_neg i10, x1, d4, bnd_s, x2]
  refine ⟨0, σ', 0, τ', rfl, rfl, ?_⟩
  rcases x3 with ⟨s', y1, y2, y3, y4, y5⟩ | x3
  rotate_left
  · exact x3.fin
  have r5s : rws σ3 5 = rws σ0 5 := d6.trans (b6.trans (a6.trans r5))
  refine ⟨y2.2.1, y2.2.2.1, Or.inl ⟨s', c0, by omega, y2.1, Nat.le_refl _, by omega, by omega, ?_⟩⟩
  have e34 : τ'.2.1 34 I = nI d := by rw [y5.2 34 (by decide)]; simp [va_up, upd]
  have e33 : τ'.2.1 33 I = nI b := by
    rw [y5.2 33 (by decide)]
    simp only [va_up, reduceIte, Nat.reduceEqDiff]
    rw [d7.2 33 (by decide)]
    simp [va_up, upd]
  have e31 : τ'.2.1 31 I = nI a := by
    rw [y5.2 31 (by decide)]
    simp only [va_up, reduceIte, Nat.reduceEqDiff]
    rw [d7.2 31 (by decide)]
    simp only [va_up, reduceIte, Nat.reduceEqDiff]
    rw [b7.2 31 (by decide)]
    simp [va_up, upd]
  have e30' : τ'.2.1 30 I = nI 6 := by
    rw [y5.2 30 (by decide)]
    simp only [va_up, reduceIte, Nat.reduceEqDiff]
    rw [d7.2 30 (by decide)]
    simp only [va_up, reduceIte, Nat.reduceEqDiff]
    rw [b7.2 30 (by decide)]
    simp only [va_up, reduceIte, Nat.reduceEqDiff]
    rw [a7.2 30 (by decide)]
    exact e30
  refine cln_num (j := 6) e30' (by omega) (by omega) ?_ ?_ ?_ ?_ (fun z => by omega) (fun z => by omega) (fun _ => ⟨⟨a, a1, by omega, e31⟩, ⟨b, b1, by omega, e33⟩, ⟨d, d1, by omega, e34⟩⟩) (fun z => by omega) ?_ (fun _ => ⟨?_, ?_⟩)
  · rw [y2.2.2.2 0 (by omega)]; simp [upd, w0]
  · rw [y2.2.2.2 1 (by omega)]; simp [upd, w1]
  · rw [y2.2.2.2 2 (by omega)]; simp [upd, w2]
  · rw [y2.2.2.2 3 (by omega)]; simp [upd, w3]
  · rw [y2.2.2.2 6 (by omega), e31]; simp [upd]
  · rw [y2.2.2.2 7 (by omega), e33]; simp [upd]
  · rw [y2.2.2.2 8 (by omega), e34]; simp [upd]
theorem ws_fo : (ws 39).getD 0 0 = 102 ∧ (ws 38).getD 0 0 = 111 := by decide +kernel
theorem isWb_0 {s u : Nat} (hu : u < 40) (hu3 : 3 ≤ u) (h : isWb B n (ws u) s = true) : bt B n s = (ws u).getD 0 0 := by
  have h1 := ((isWb_iff _ _).1 h).1 0 (by have := (ws_pos u hu hu3).1; omega)
  rw [Nat.add_zero] at h1
  exact h1
/-- heirs -/
theorem kind_heirs {s0 k s : Nat} {row : Nat → Int32} {σ τ : CS} (hB : Beg B n t σ0 τ0 c0 I R s0 k 5 s row σ τ) (hR : rws σ0 4 = R) (hI : I < 120) : ∃ v1 σ' v2 τ', bnd (f_Reader_readHeirs (nI R) σ) (fun r255 σ255 => B_Reader_readClause_331 (nI R) r255 σ255) = some (v1, σ') ∧ bnd (f_M_eat 38 τ) (fun r177 σ177 => if r177 = 0 then B_M_clause_188 (nI I) (nI I) 0 σ177 else B_M_clause_188 (nI I) (nI I) 1 σ177) = some (v2, τ') ∧ Fin B n t σ0 τ0 c0 I R s0 k σ' τ' := by
  obtain ⟨hC, hs, r5, e30, e32, w0, w1, w2, w3, w4, hc, hr⟩ := hB
  obtain ⟨l1, l2, l3⟩ := hC.1.le
  have h24 : τ.1 24 = 0 := hC.1.2.2.2.2.1
  have gI : ∀ {X : Type} (o : Option X), gix (nI I) 120 o = o := fun o => gix_n hI (by omega)
  have ef : fwd B n s ((lw 11).map ws) 0 = if isWb B n (ws 39) s = true then some (0, (ws 39).length) else if isWb B n (ws 38) s = true then some (1, (ws 38).length) else none := rfl
  have tw := hC.1.takeWord (w := 11) (by omega) (by omega)
  rw [ef] at tw
  have e38 := hC.1.eat (u := 38) (by omega)
  -- a good one: the number a, its word of length l
  have good : ∀ (a l : Nat), a ≤ 1 → s + l ≤ n → f_Reader_takeWord 11 σ = some (nI a, Att σ (s + l)) → ∀ τ2 : CS, CSt B n t σ0 τ0 c0 I R (sk B n (s + l)) c0 row (Att σ (s + l)) τ2 → τ2.2.1 30 I = nI 5 → τ2.2.1 31 I = nI a → ∃ v1 σ' v2 τ', bnd (f_Reader_readHeirs (nI R) σ) (fun r255 σ255 => B_Reader_readClause_331 (nI R) r255 σ255) = some (v1, σ') ∧ B_M_clause_290 τ2 = some (v2, τ') ∧ Fin B n t σ0 τ0 c0 I R s0 k σ' τ' := by
    intro a l ha hl ht τ2 C2 f30 f31
    have hge := sk_ge (B := B) hl
    obtain ⟨p1, p2⟩ := C2.put hR (e := 6) (by omega) (nI a) (ce := 6) rfl
    obtain ⟨σ', τ', x1, x2, x3⟩ := tail_ok p2 hR (Nat.le_refl _)
    refine ⟨0, σ', 0, τ', ?_, x2, ?_⟩
    · unfold f_Reader_readHeirs
      rw [ht, bnd_s, p1, bnd_s, if_neg (nI_neg1 (by omega)), bnd_s, x1]
    rcases x3 with ⟨s', y1, y2, y3, y4, y5⟩ | x3
    rotate_left
    · exact x3.fin
    have r5s : rws (pt (Att σ (s + l)) 4 R 6 (nI a)) 5 = rws σ0 5 := r5
    refine ⟨y2.2.1, y2.2.2.1, Or.inl ⟨s', c0, by omega, y2.1, Nat.le_refl _, by omega, by omega, ?_⟩⟩
    have e31 : τ'.2.1 31 I = nI a := by rw [y5.2 31 (by decide)]; exact f31
    refine cln_num (j := 5) (by rw [y5.2 30 (by decide)]; exact f30) (by omega) (by omega) ?_ ?_ ?_ ?_ (fun z => by omega) (fun _ => ⟨a, ha, e31⟩) (fun z => by omega) (fun z => by omega) ?_ (fun z => by omega)
    · rw [y2.2.2.2 0 (by omega)]; simp [upd, w0]
    · rw [y2.2.2.2 1 (by omega)]; simp [upd, w1]
    · rw [y2.2.2.2 2 (by omega)]; simp [upd, w2]
    · rw [y2.2.2.2 3 (by omega)]; simp [upd, w3]
    · rw [y2.2.2.2 6 (by omega), e31]; simp [upd]
  unfold B_M_clause_188
  simp only [gI, wrn (show I < 2147483648 by omega), rdn (show I < 2147483648 by omega)]
  rw [e38]
  by_cases q38 : isWb B n (ws 38) s = true
  · -- owe
    have q39 : ¬ isWb B n (ws 39) s = true := fun z => by
      have z1 := isWb_0 (by omega) (by omega) z
      have z2 := isWb_0 (by omega) (by omega) q38
      have := ws_fo
      omega
    rw [if_neg q39, if_pos q38] at tw
    rcases tw with ⟨j, l, u1, u2, u3⟩ | ⟨u1, -⟩
    rotate_left
    · cases u1
    simp only [Option.some.injEq, Prod.mk.injEq] at u1
    obtain ⟨rfl, rfl⟩ := u1
    have C2 := (hC.kep (Kep.go t c0 hC.1.1.1 (s + (ws 38).length) (s + (ws 38).length)) (hC.1.on u2) (Nat.le_refl _)).wr (a := 31) (by omega) (by omega) 1
    rw [if_pos q38, bnd_s, if_neg i10]
    have f31 : (sA (Bam τ (s + (ws 38).length)) 31 (upd ((Bam τ (s + (ws 38).length)).2.1 31) I 1)).2.1 31 I = 1 := by simp [va_up, upd]
    rw [if_neg (by rw [show va_up (Bam τ (s + (ws 38).length)).2.1 31 (upd ((Bam τ (s + (ws 38).length)).2.1 31) I 1) 31 I = 1 from f31]; decide)]
    exact good 1 _ (by omega) u2 u3 _ C2 (by simp only [va_up, reduceIte, Nat.reduceEqDiff]; exact e30) f31
  rw [if_neg q38, bnd_s, if_pos rfl]
  have C1 := (hC.kep (Kep.go t c0 hC.1.1.1 s s) hC.1.here (Nat.le_refl _)).wr (a := 31) (by omega) (by omega) 0
  have f31 : (sA (Bam τ s) 31 (upd ((Bam τ s).2.1 31) I 0)).2.1 31 I = 0 := by simp [va_up, upd]
  have e39 := C1.1.eat (u := 39) (by omega)
  rw [if_pos f31, e39]
  by_cases q39 : isWb B n (ws 39) s = true
  · -- free
    rw [if_pos q39] at tw
    rcases tw with ⟨j, l, u1, u2, u3⟩ | ⟨u1, -⟩
    rotate_left
    · cases u1
    simp only [Option.some.injEq, Prod.mk.injEq] at u1
    obtain ⟨rfl, rfl⟩ := u1
    have C2 := C1.kep (Kep.go t c0 C1.1.1.1 (s + (ws 39).length) (s + (ws 39).length)) (C1.1.on u2) (Nat.le_refl _)
    rw [Att_Att] at C2
    rw [if_pos q39, bnd_s, if_neg i10]
    exact good 0 _ (by omega) u2 u3 _ C2 (by simp only [va_up, reduceIte, Nat.reduceEqDiff]; exact e30) f31
  rw [if_neg q39, if_neg q38] at tw
  rcases tw with ⟨j, l, u1, -⟩ | ⟨-, u3⟩
  · cases u1
  have C2 := C1.kep (Kep.go t c0 C1.1.1.1 s s) C1.1.here (Nat.le_refl _)
  rw [Att_Att] at C2
  obtain ⟨p1, p2⟩ := C2.put hR (e := 6) (by omega) (-1) (ce := 6) rfl
  have e56 : (pt (Att σ s) 4 R 6 (-1)).1 56 = nI s := sF_self σ 56 _
  obtain ⟨b1, b2⟩ := Bad.mk (k := 1) (p := s) (q := s) p2.1 (by omega) (by omega) l1 l1
  have ea : Att (pt (Att σ s) 4 R 6 (-1)) s = pt (Att σ s) 4 R 6 (-1) := Att_id e56
  rw [ea, Bam_Bam] at b1 b2
  have B1 := p2.bad b2 b1 (Nat.le_refl _)
  obtain ⟨σ', x1, x2, x3⟩ := tail_bad B1 hR
  have wr : f_M_wrong 1 (nI s) (Bam (sA (Bam τ s) 31 (upd ((Bam τ s).2.1 31) I 0)) s) = some (0, FaM (Bam (sA (Bam τ s) 31 (upd ((Bam τ s).2.1 31) I 0)) s) 1 s) := wrongM (τ := Bam (sA (Bam τ s) 31 (upd ((Bam τ s).2.1 31) I 0)) s) h24 1 s
  have cC : f_Reader_readHeirs (nI R) σ = some (0, Fai (pt (Att σ s) 4 R 6 (-1)) 1 s) := by
    unfold f_Reader_readHeirs
    rw [u3, bnd_s, p1, bnd_s, if_pos rfl, e56]
    show bnd (f_Reader_fail (nI 1) (nI s) (pt (Att σ s) 4 R 6 (-1))) _ = _
    rw [failC, bnd_s, if_pos rfl]
  rw [if_neg q39, bnd_s, if_pos rfl, Bam_23, wr, bnd_s, cC, bnd_s, x1, x2]
  exact ⟨0, σ', 0, _, rfl, rfl, x3.fin⟩
