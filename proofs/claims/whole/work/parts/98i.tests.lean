/-! ===== layer 2: texts are read; tests, and all together ===== -/
theorem ws35 : (ws 35).length = 3 := by decide +kernel
theorem test_ag {B : Nat → Nat} {n t o MS ME MU MT : Nat} (rcC : Nat → Int32 → Int32 → CS → Option (Int32 × CS)) (rcM : Nat → CS → Option (Int32 × CS)) (ho : o ≤ 8) (hS : Spc B n t o (fun σ => rcC 3 (nI o) 0 σ) (fun τ => rcM 0 τ) MS false) (hE : o < 8 → Spc B n t (o + 1) (fun σ => rcC 0 (nI (o + 1)) 0 σ) (fun τ => rcM 3 τ) ME true) (hU : o < 8 → Spc B n t (o + 1) (fun σ => rcC 2 (nI (o + 1)) 0 σ) (fun τ => rcM 5 τ) MU true) (hD3 : DdS B n (rcM 3)) (hD5 : DdS B n (rcM 5)) (ht : t < 10) (m1 : MS + 1 ≤ MT) (m2 : ME ≤ MT) (m3 : MU ≤ MT) : Spc B n t o (fun σ => f_Reader_readTest rcC (nI o) σ) (fun τ => f_M_test rcM τ) MT true := by
  intro s c σ τ hP hcs hrs
  show ∃ r σ' v τ', f_Reader_readTest rcC (nI o) σ = some (r, σ') ∧ f_M_test rcM τ = some (v, τ') ∧ _
  obtain ⟨l1, l2, l3⟩ := hP.le
  have hW : WC σ := hP.1.1
  have hB := bt_le hP.2.1 s
  have h24 : τ.1 24 = 0 := hP.2.2.2.2.1
  have h24' : (Bam τ s).1 24 = 0 := h24
  have e56 : (Att σ s).1 56 = nI s := sF_self σ 56 _
  have iw := isWordM (s := 35) (hP.2.1.at s) l1 (Bam_23 τ s) (by omega)
  rw [l3, Bam_Bam] at iw
  have tw := hP.hereC.takeWord (w := 6) (by omega) (by omega)
  simp only [Att_Att] at tw
  have ef : fwd B n s ((lw 6).map ws) 0 = if isWb B n (ws 35) s = true then some (0, (ws 35).length) else none := rfl
  rw [ef] at tw
  unfold f_Reader_readTest f_M_test
  rw [hP.skip, bnd_s, e56, h24, if_pos (show (0 : Int32) ≤ 0 by decide), hP.blanks, bnd_s, iw, bnd_s]
  by_cases qn : isWb B n (ws 35) s = true
  · -- not
    rw [if_pos qn] at tw ⊢
    rcases tw with ⟨j, l, u1, u2, u3⟩ | ⟨u1, -⟩
    rotate_left
    · cases u1
    simp only [Option.some.injEq, Prod.mk.injEq] at u1
    obtain ⟨rfl, rfl⟩ := u1
    rw [ws35] at u2 u3
    rw [u3, bnd_s, if_neg (by decide), if_neg i10]
    by_cases q8 : o = 8
    · subst q8
      obtain ⟨τ1, w1, w2, w3, w4, w5⟩ := opens_bad (x := 3) hP.hereM (Bam_23 _ _) u2
      have w1' : f_M_opens 3 (Bam τ s) = some (0, τ1) := w1
      obtain ⟨v, τ2, g1, g2, g3⟩ := hD5 τ1 w3
      have d4 : Ddm B n (sF τ2 26 (τ2.1 26 - 1)) := g3.fr (I := [26]) (A := []) (FrM.f1 _ _ (by decide)) (by decide) (by decide)
      rw [mayOpen_bad, bnd_s, if_pos rfl, w1', bnd_s, g1, bnd_s, d4.emits, bnd_s]
      have fr : FrM [23, 26] [] τ1 (sF τ2 26 (τ2.1 26 - 1)) := g2.trans (FrM.f1 _ _ (by decide))
      have fC : FrC [56, 58, 59] [] σ (Fai (Att σ (s + 3)) 3 s) := (FrC.f1 _ _ (by decide)).trans ((FrC.f1 _ _ (by decide)).trans (FrC.f1 _ _ (by decide)))
      have fM : FrM [23, 24, 25, 26] [] τ (sF τ2 26 (τ2.1 26 - 1)) := (FrM.f1 _ _ (by decide)).trans (w2.trans (fr.mono (by decide) (by decide)))
      exact ⟨0, _, 0, _, rfl, rfl, Kep.mv t c hW fC fM, Or.inr ⟨rfl, d4, 3, s, by omega, by omega, l1, sF_self (Att σ (s + 3)) 58 _, sF_self _ 59 _, (fr.1 24 (by decide)).trans w4, (fr.1 25 (by decide)).trans w5, s + 3, u2, sF_self σ 56 _⟩⟩
    have ho8 : o < 8 := by omega
    obtain ⟨τ1, w1, w2, P1⟩ := opens_ok (x := 3) hP.hereM (Bam_23 _ _) ho8 u2
    have w1' : f_M_opens 3 (Bam τ s) = some (0, τ1) := w1
    have hge : s + 3 ≤ sk B n (s + 3) := sk_ge u2
    have P1' : PS B n t (sk B n (s + 3)) (o + 1) c (Att σ (s + 3)) τ1 := P1
    have er : rws (Att σ (s + 3)) 5 = rws σ 5 := rfl
    obtain ⟨r, σ2, v, τ2, g2, g3, g4, g5⟩ := hU ho8 _ _ _ _ P1' (by omega) (by rw [er]; omega)
    have g2' : rcC 2 (nI (o + 1)) 0 (Att σ (s + 3)) = some (r, σ2) := g2
    have g3' : rcM 5 τ1 = some (v, τ2) := g3
    have K1 : Kep t c σ τ (Att σ (s + 3)) τ1 := Kep.mv t c hW (FrC.f1 _ _ (by decide)) ((FrM.f1 _ _ (by decide)).trans (w2.mono (by decide) (by decide)))
    have K2 : Kep t c σ τ σ2 τ2 := K1.trans g4 (Nat.le_refl _)
    have K3 : Kep t c σ τ σ2 (sF τ2 26 (τ2.1 26 - 1)) := K2.dd (FrM.f1 _ _ (by decide))
    rw [mayOpen_ok ho8, bnd_s, if_neg i10, nI_1, w1', bnd_s, g2', g3', bnd_s, bnd_s]
    rcases g5 with ⟨rfl, s2, k2, q1, q2, P2, q4, q5⟩ | ⟨rfl, q⟩
    rotate_left
    · have d4 : Ddm B n (sF τ2 26 (τ2.1 26 - 1)) := q.1.fr (I := [26]) (A := []) (FrM.f1 _ _ (by decide)) (by decide) (by decide)
      rw [if_pos rfl, d4.emits, bnd_s]
      exact ⟨0, σ2, 0, _, rfl, rfl, K3, Or.inr ⟨rfl, q.dd (FrM.f1 _ _ (by decide)) d4⟩⟩
    rw [er] at q4 q5
    have hl2 := P2.le
    have P3 : PS B n t s2 o (c + k2) σ2 (sF τ2 26 (τ2.1 26 - 1)) := by
      obtain ⟨h1, h2, h3, h4, h5, h6, h7⟩ := P2
      rw [h6, nI_p1]
      exact ⟨h1, h2, h3, h4, h5, sF_self τ2 26 _, h7⟩
    have S3 : Seg σ2 (sF τ2 26 (τ2.1 26 - 1)) (rws σ 5) (450 * t + c) k2 MT true := ⟨q5.1, q5.2.mono m3⟩
    obtain ⟨σ3, τ3, e1, e2, e3, e4, e5, e6⟩ := un_ok K3 q4 S3 P3 ht (by omega) (by omega) (by omega)
    rw [if_neg i10, e1, bnd_s, if_neg i10, e2, bnd_s]
    exact ⟨1, σ3, 0, τ3, rfl, rfl, e3, Or.inl ⟨rfl, s2, k2 + 1, by omega, by omega, e4, e5, e6⟩⟩
  rw [if_neg qn] at tw ⊢
  rcases tw with ⟨j, l, u1, -⟩ | ⟨-, u3⟩
  · cases u1
  have ts : f_Reader_takeSign 91 (Att σ s) = if bt B n s = 91 then some (1, Att (Att σ s) (s + 1)) else some (0, Att (Att σ s) s) := hP.hereC.takeSign 91 (by omega) (by omega)
  rw [Att_Att, Att_Att] at ts
  rw [u3, bnd_s, if_pos rfl, if_pos rfl, ts, Bam_23, byteAtM (hP.2.1.at s) (by omega), bnd_s]
  by_cases qb : bt B n s = 91
  · -- [ C ]
    have hs := bt_in qb (by omega)
    have hge : s + 1 ≤ sk B n (s + 1) := sk_ge (by omega)
    rw [if_pos qb, bnd_s, if_neg i10, if_pos (show nI (bt B n s) = 91 by rw [qb]; rfl)]
    by_cases q8 : o = 8
    · subst q8
      obtain ⟨τ1, w1, w2, w3, w4, w5⟩ := opens_bad (x := 1) hP.hereM (Bam_23 _ _) (by omega)
      have w1' : f_M_opens 1 (Bam τ s) = some (0, τ1) := w1
      obtain ⟨v, τ2, g1, g2, g3⟩ := hD3 τ1 w3
      obtain ⟨τ3, k1, k2, k3⟩ := g3.closes 93
      rw [mayOpen_bad, bnd_s, if_pos rfl, w1', bnd_s, g1, bnd_s, k1, bnd_s]
      have fr : FrM [23, 26] [] τ1 τ3 := g2.trans k2
      have fC : FrC [56, 58, 59] [] σ (Fai (Att σ (s + 1)) 3 s) := (FrC.f1 _ _ (by decide)).trans ((FrC.f1 _ _ (by decide)).trans (FrC.f1 _ _ (by decide)))
      have fM : FrM [23, 24, 25, 26] [] τ τ3 := (FrM.f1 _ _ (by decide)).trans (w2.trans (fr.mono (by decide) (by decide)))
      exact ⟨0, _, 0, _, rfl, rfl, Kep.mv t c hW fC fM, Or.inr ⟨rfl, k3, 3, s, by omega, by omega, l1, sF_self (Att σ (s + 1)) 58 _, sF_self _ 59 _, (fr.1 24 (by decide)).trans w4, (fr.1 25 (by decide)).trans w5, s + 1, by omega, sF_self σ 56 _⟩⟩
    have ho8 : o < 8 := by omega
    obtain ⟨τ1, w1, w2, P1⟩ := opens_ok (x := 1) hP.hereM (Bam_23 _ _) ho8 (by omega)
    have w1' : f_M_opens 1 (Bam τ s) = some (0, τ1) := w1
    have P1' : PS B n t (sk B n (s + 1)) (o + 1) c (Att σ (s + 1)) τ1 := P1
    have er : rws (Att σ (s + 1)) 5 = rws σ 5 := rfl
    obtain ⟨r, σ2, v, τ2, g2, g3, g4, g5⟩ := hE ho8 _ _ _ _ P1' (by omega) (by rw [er]; omega)
    have g2' : rcC 0 (nI (o + 1)) 0 (Att σ (s + 1)) = some (r, σ2) := g2
    have g3' : rcM 3 τ1 = some (v, τ2) := g3
    have K1 : Kep t c σ τ (Att σ (s + 1)) τ1 := Kep.mv t c hW (FrC.f1 _ _ (by decide)) ((FrM.f1 _ _ (by decide)).trans (w2.mono (by decide) (by decide)))
    have K2 : Kep t c σ τ σ2 τ2 := K1.trans g4 (Nat.le_refl _)
    rw [mayOpen_ok ho8, bnd_s, if_neg i10, nI_1, w1', bnd_s, g2', g3', bnd_s, bnd_s]
    rcases g5 with ⟨rfl, s2, k2, q1, q2, P2, q4, q5⟩ | ⟨rfl, q⟩
    rotate_left
    · obtain ⟨τ3, k1, k2, k3⟩ := q.1.closes 93
      rw [if_pos rfl, k1, bnd_s]
      exact ⟨0, σ2, 0, _, rfl, rfl, K2.dd k2, Or.inr ⟨rfl, q.dd k2 k3⟩⟩
    rw [er] at q4 q5
    have hl2 := P2.le
    have ns2 : f_Reader_needSign 93 σ2 = if bt B n s2 = 93 then some (1, Att σ2 (s2 + 1)) else some (0, Fai (Att σ2 s2) 1 s2) := P2.needSign 93 (by omega) (by omega)
    rw [if_neg i10, ns2]
    by_cases qc : bt B n s2 = 93
    rotate_left
    · obtain ⟨τ4, u1, u2, u3⟩ := closes_bad P2 (x := 93) (by omega) (by omega) qc
      have u1' : f_M_closes 93 τ2 = some (0, τ4) := u1
      rw [if_neg qc, bnd_s, if_pos rfl, u1', bnd_s]
      exact ⟨0, _, 0, τ4, rfl, rfl, K2.trans u3 (by omega), Or.inr ⟨rfl, u2⟩⟩
    have hs2 := bt_in qc (by omega)
    have hge2 : s2 + 1 ≤ sk B n (s2 + 1) := sk_ge (by omega)
    obtain ⟨τ4, u1, u2, P4⟩ := closes_ok P2 (x := 93) (by omega) (by omega) qc
    have u1' : f_M_closes 93 τ2 = some (0, τ4) := u1
    have K24 : Kep t (c + k2) σ2 τ2 (Att σ2 (s2 + 1)) τ4 := Kep.mv t _ P2.1.1 (FrC.f1 _ _ (by decide)) u2
    have S4 := q5.kep K24 (by omega) (by omega)
    have er2 : rws (Att σ2 (s2 + 1)) 5 = rws σ2 5 := rfl
    rw [if_pos qc, bnd_s, if_neg i10, u1', bnd_s]
    exact ⟨1, _, 0, τ4, rfl, rfl, K2.trans K24 (by omega), Or.inl ⟨rfl, sk B n (s2 + 1), k2, q1, by omega, P4, by rw [er2]; exact q4, S4.1, S4.2.mono m2⟩⟩
  -- E R E
  rw [if_neg qb, bnd_s, if_pos rfl, if_neg (fun z => qb ((eq_lit 91 (by omega) (by omega)).1 z))]
  have er0 : rws (Att σ s) 5 = rws σ 5 := rfl
  obtain ⟨r, σ2, v, τ2, g2, g3, g4, g5⟩ := hS s c (Att σ s) (Bam τ s) hP.here hcs (by rw [er0]; omega)
  have g2' : rcC 3 (nI o) 0 (Att σ s) = some (r, σ2) := g2
  have g3' : rcM 0 (Bam τ s) = some (v, τ2) := g3
  have K2 : Kep t c σ τ σ2 τ2 := (Kep.go t c hW s s).trans g4 (Nat.le_refl _)
  rw [g2', g3', bnd_s, bnd_s]
  rcases g5 with ⟨rfl, s2, k2, q1, q2, P2, q4, q5⟩ | ⟨rfl, q⟩
  rotate_left
  · rw [if_pos rfl, if_neg q.1.n0.1]
    exact ⟨0, σ2, 0, _, rfl, rfl, K2, Or.inr ⟨rfl, q⟩⟩
  rw [er0] at q4 q5
  have hl2 := P2.le
  have hB2 := bt_le P2.2.1 s2
  have h242 : τ2.1 24 = 0 := P2.2.2.2.2.1
  rw [if_neg i10, h242, if_pos (show (0 : Int32) ≤ 0 by decide), P2.blanks, bnd_s, Bam_23, byteAtM (P2.2.1.at s2) (by omega), bnd_s]
  have t60 : f_Reader_takeSign 60 σ2 = if bt B n s2 = 60 then some (1, Att σ2 (s2 + 1)) else some (0, Att σ2 s2) := P2.takeSign 60 (by omega) (by omega)
  have t62 : f_Reader_takeSign 62 (Att σ2 s2) = if bt B n s2 = 62 then some (1, Att (Att σ2 s2) (s2 + 1)) else some (0, Att (Att σ2 s2) s2) := P2.hereC.takeSign 62 (by omega) (by omega)
  have t61 : f_Reader_needSign 61 (Att σ2 s2) = if bt B n s2 = 61 then some (1, Att (Att σ2 s2) (s2 + 1)) else some (0, Fai (Att (Att σ2 s2) s2) 1 s2) := P2.hereC.needSign 61 (by omega) (by omega)
  rw [Att_Att, Att_Att] at t62 t61
  have n60 : nI (bt B n s2) = 60 ↔ bt B n s2 = 60 := eq_lit 60 (by omega) (by omega)
  have n62 : nI (bt B n s2) = 62 ↔ bt B n s2 = 62 := eq_lit 62 (by omega) (by omega)
  have n61 : nI (bt B n s2) = 61 ↔ bt B n s2 = 61 := eq_lit 61 (by omega) (by omega)
  have step : ∀ (x : Nat) (oo : Int32), x ≤ 10015 → 10013 ≤ x → encN x oo 0 → s2 < n → ∃ r σ' v τ', rcC 3 (nI o) 0 (Att σ2 (s2 + 1)) = some (r, σ') ∧ rcM 0 (Bam τ2 (s2 + 1)) = some (v, τ') ∧ ((r = 1 ∧ ∃ σ3 τ3, f_Reader_emit (nI x) σ' = some (1, σ3) ∧ B_M_test_170 rcM oo τ' = some (0, τ3) ∧ Kep t c σ τ σ3 τ3 ∧ Okk B n t s o c MT true σ τ σ3 τ3) ∨ (r = 0 ∧ ∃ τ3, B_M_test_170 rcM oo τ' = some (0, τ3) ∧ Kep t c σ τ σ' τ3 ∧ Bad B n σ' τ3)) := by
    intro x oo hx1 hx2 he hs2
    have hge2 : s2 + 1 ≤ sk B n (s2 + 1) := sk_ge (by omega)
    have er2 : rws (Att σ2 (s2 + 1)) 5 = rws σ2 5 := rfl
    obtain ⟨r, σ3, v, τ3, g6, g7, g8, g9⟩ := hS _ _ _ _ (P2.on (e := s2 + 1) (by omega)) (by omega) (by rw [er2]; omega)
    have K23 : Kep t (c + k2) σ2 τ2 σ3 τ3 := (Kep.go t (c + k2) P2.1.1 (s2 + 1) (s2 + 1)).trans g8 (Nat.le_refl _)
    refine ⟨r, σ3, v, τ3, g6, g7, ?_⟩
    unfold B_M_test_170
    rcases g9 with ⟨rfl, s3, k3, p1, p2, P3, p4, p5⟩ | ⟨rfl, q⟩
    rotate_left
    · rw [q.1.emits, bnd_s]
      exact Or.inr ⟨rfl, τ3, rfl, K2.trans K23 (by omega), q⟩
    left
    rw [er2] at p4 p5
    have hl3 := P3.le
    obtain ⟨σ5, τ5, e1, e2, e3, e4, e5, e6⟩ := bin_ok K2 q4 q5 K23 p4 p5 P3 ht (by omega) (by omega) (show x ≤ 10021 by omega) he (b := true) (fun st => by
      unfold stp
      rw [if_neg (by omega), if_neg (by omega)]
      show (if x ≤ 10012 then _ else if x ≤ 10015 then some (true :: st) else _) = _
      rw [if_neg (by omega), if_pos (by omega)])
    refine ⟨rfl, σ5, τ5, e1, ?_, e3, s3, k2 + k3 + 1, by omega, by omega, e4, e5, e6.1, e6.2.mono (by omega)⟩
    rw [e2, bnd_s]
  unfold B_M_test_131
  rw [t60, Bam_23, nI_1, sF_sF]
  by_cases q60 : bt B n s2 = 60
  · obtain ⟨r, σ3, v, τ3, g6, g7, g8⟩ := step 10013 11 (by omega) (by omega) (by right; right; exact ⟨by omega, by omega, rfl⟩) (bt_in q60 (by omega))
    rw [if_pos q60, if_pos (n60.2 q60), bnd_s, if_neg i10, g6, g7, bnd_s, bnd_s, if_pos (n60.2 q60)]
    rcases g8 with ⟨rfl, σ5, τ5, e1, e2, e3, e4⟩ | ⟨rfl, τ5, e2, e3, e4⟩
    · have e1' : f_Reader_emit 10013 σ3 = some (1, σ5) := e1
      rw [if_neg i10, e1', bnd_s, if_neg i10, e2]
      exact ⟨1, σ5, 0, τ5, rfl, rfl, e3, Or.inl ⟨rfl, e4⟩⟩
    · rw [if_pos rfl, e2]
      exact ⟨0, σ3, 0, τ5, rfl, rfl, e3, Or.inr ⟨rfl, e4⟩⟩
  rw [if_neg q60, if_neg (fun z => q60 (n60.1 z)), bnd_s, if_pos rfl, t62]
  by_cases q62 : bt B n s2 = 62
  · obtain ⟨r, σ3, v, τ3, g6, g7, g8⟩ := step 10014 12 (by omega) (by omega) (by right; right; exact ⟨by omega, by omega, rfl⟩) (bt_in q62 (by omega))
    rw [if_pos q62, if_pos (n62.2 q62), bnd_s, if_neg i10, g6, g7, bnd_s, bnd_s, if_neg (fun z => q60 (n60.1 z)), if_pos (n62.2 q62)]
    rcases g8 with ⟨rfl, σ5, τ5, e1, e2, e3, e4⟩ | ⟨rfl, τ5, e2, e3, e4⟩
    · have e1' : f_Reader_emit 10014 σ3 = some (1, σ5) := e1
      rw [if_neg i10, e1', bnd_s, if_neg i10, e2]
      exact ⟨1, σ5, 0, τ5, rfl, rfl, e3, Or.inl ⟨rfl, e4⟩⟩
    · rw [if_pos rfl, e2]
      exact ⟨0, σ3, 0, τ5, rfl, rfl, e3, Or.inr ⟨rfl, e4⟩⟩
  rw [if_neg q62, if_neg (fun z => q62 (n62.1 z)), bnd_s, if_pos rfl, t61]
  by_cases q61 : bt B n s2 = 61
  · obtain ⟨r, σ3, v, τ3, g6, g7, g8⟩ := step 10015 13 (by omega) (by omega) (by right; right; exact ⟨by omega, by omega, rfl⟩) (bt_in q61 (by omega))
    rw [if_pos q61, if_pos (n61.2 q61), bnd_s, if_neg i10, g6, g7, bnd_s, bnd_s, if_neg (fun z => q60 (n60.1 z)), if_neg (fun z => q62 (n62.1 z))]
    rcases g8 with ⟨rfl, σ5, τ5, e1, e2, e3, e4⟩ | ⟨rfl, τ5, e2, e3, e4⟩
    · have e1' : f_Reader_emit 10015 σ3 = some (1, σ5) := e1
      rw [if_neg i10, e1', bnd_s, if_neg i10, e2]
      exact ⟨1, σ5, 0, τ5, rfl, rfl, e3, Or.inl ⟨rfl, e4⟩⟩
    · rw [if_pos rfl, e2]
      exact ⟨0, σ3, 0, τ5, rfl, rfl, e3, Or.inr ⟨rfl, e4⟩⟩
  obtain ⟨b1, b2⟩ := Bad.mk (k := 1) (p := s2) (q := s2) P2 (by omega) (by omega) hl2.1 hl2.1
  have wr : f_M_wrong 1 (nI s2) (Bam τ2 s2) = some (0, FaM (Bam τ2 s2) 1 s2) := wrongM (τ := Bam τ2 s2) h242 1 s2
  rw [if_neg q61, if_neg (fun z => q61 (n61.1 z)), bnd_s, if_pos rfl, wr, bnd_s]
  exact ⟨0, _, 0, _, rfl, rfl, K2.trans b2 (by omega), Or.inr ⟨rfl, b1⟩⟩
theorem unit_DdS (B : Nat → Nat) (n : Nat) (rcM : Nat → CS → Option (Int32 × CS)) : DdS B n (f_M_unit rcM) := by
  intro τ h
  refine ⟨0, τ, ?_, FrM.refl _ _ _, h⟩
  unfold f_M_unit
  rw [if_neg h.n0.1]
theorem test_DdS (B : Nat → Nat) (n : Nat) (rcM : Nat → CS → Option (Int32 × CS)) : DdS B n (f_M_test rcM) := by
  intro τ h
  refine ⟨0, τ, ?_, FrM.refl _ _ _, h⟩
  unfold f_M_test
  rw [if_neg h.n0.1]
theorem g_MP_2 (d : Nat) : g_MP (d + 1) 2 = f_M_unit (g_MP d) := by funext τ; rfl
theorem g_MP_5 (d : Nat) : g_MP (d + 1) 5 = f_M_test (g_MP d) := by funext τ; rfl
theorem g_MP_1 (d : Nat) : g_MP (d + 1) 1 = f_M_product (g_MP d) := by funext τ; rfl
theorem g_MP_4 (d : Nat) : g_MP (d + 1) 4 = f_M_ands (g_MP d) := by funext τ; rfl
theorem g_MP_0 (d : Nat) : g_MP (d + 1) 0 = f_M_sum (g_MP d) := by funext τ; rfl
theorem g_MP_3 (d : Nat) : g_MP (d + 1) 3 = f_M_ors (g_MP d) := by funext τ; rfl
theorem dead_2 (B : Nat → Nat) (n d : Nat) : DdS B n (g_MP (d + 1) 2) := by rw [g_MP_2]; exact unit_DdS B n _
theorem dead_5 (B : Nat → Nat) (n d : Nat) : DdS B n (g_MP (d + 1) 5) := by rw [g_MP_5]; exact test_DdS B n _
theorem dead_1 (B : Nat → Nat) (n d : Nat) : DdS B n (g_MP (d + 2) 1) := by rw [g_MP_1]; exact product_DdS _ (dead_2 B n d)
theorem dead_4 (B : Nat → Nat) (n d : Nat) : DdS B n (g_MP (d + 2) 4) := by rw [g_MP_4]; exact both_DdS _ (dead_5 B n d)
theorem dead_0 (B : Nat → Nat) (n d : Nat) : DdS B n (g_MP (d + 3) 0) := by rw [g_MP_0]; exact sum_DdS _ (dead_1 B n d)
theorem dead_3 (B : Nat → Nat) (n d : Nat) : DdS B n (g_MP (d + 3) 3) := by rw [g_MP_3]; exact either_DdS _ (dead_4 B n d)
theorem Spc.mono {B : Nat → Nat} {n t o M M' : Nat} {bb : Bool} {F G : CS → Option (Int32 × CS)} (h : Spc B n t o F G M bb) (e : M ≤ M') : Spc B n t o F G M' bb := by
  intro s c σ τ hP h1 h2
  obtain ⟨r, σ', v, τ', g1, g2, g3, g4⟩ := h s c σ τ hP h1 h2
  refine ⟨r, σ', v, τ', g1, g2, g3, ?_⟩
  rcases g4 with ⟨z, s', m, q1, q2, q3, q4, q5⟩ | z
  · exact Or.inl ⟨z, s', m, q1, q2, q3, q4, q5.1, q5.2.mono e⟩
  · exact Or.inr z
theorem readers {B : Nat → Nat} {n t : Nat} (ht : t < 10) : ∀ (d d' o : Nat), o ≤ 8 →
    (2 + 4 * (8 - o) ≤ d → 4 + 3 * (8 - o) ≤ d' → Spc B n t o (fun σ => g_R d 5 (nI o) 0 σ) (fun τ => g_MP d' 2 τ) (1 + 3 * (8 - o)) false) ∧
    (3 + 4 * (8 - o) ≤ d → 5 + 3 * (8 - o) ≤ d' → Spc B n t o (fun σ => g_R d 4 (nI o) 0 σ) (fun τ => g_MP d' 1 τ) (2 + 3 * (8 - o)) false) ∧
    (4 + 4 * (8 - o) ≤ d → 6 + 3 * (8 - o) ≤ d' → Spc B n t o (fun σ => g_R d 3 (nI o) 0 σ) (fun τ => g_MP d' 0 τ) (3 + 3 * (8 - o)) false) ∧
    (5 + 4 * (8 - o) ≤ d → 7 + 3 * (8 - o) ≤ d' → Spc B n t o (fun σ => g_R d 2 (nI o) 0 σ) (fun τ => g_MP d' 5 τ) (4 + 3 * (8 - o)) true) ∧
    (6 + 4 * (8 - o) ≤ d → 8 + 3 * (8 - o) ≤ d' → Spc B n t o (fun σ => g_R d 1 (nI o) 0 σ) (fun τ => g_MP d' 4 τ) (5 + 3 * (8 - o)) true) ∧
    (7 + 4 * (8 - o) ≤ d → 9 + 3 * (8 - o) ≤ d' → Spc B n t o (fun σ => g_R d 0 (nI o) 0 σ) (fun τ => g_MP d' 3 τ) (6 + 3 * (8 - o)) true) := by
  intro d
  induction d using Nat.strongRecOn with
  | ind d ih =>
    intro d' o ho
    refine ⟨fun h1 h2 => ?_, fun h1 h2 => ?_, fun h1 h2 => ?_, fun h1 h2 => ?_, fun h1 h2 => ?_, fun h1 h2 => ?_⟩
    · obtain ⟨e, rfl⟩ : ∃ e, d = e + 2 := ⟨d - 2, by omega⟩
      obtain ⟨e', rfl⟩ : ∃ e, d' = e + 4 := ⟨d' - 4, by omega⟩
      have := unit_ag (B := B) (n := n) (t := t) (o := o) (MS := 3 * (8 - o)) (g_R (e + 1)) (g_R e) (g_MP (e' + 3)) ho (fun j σ => rfl) (fun ho8 => (((ih (e + 1) (by omega) (e' + 3) (o + 1) (by omega)).2.2.1 (by omega) (by omega))).mono (by omega)) (fun ho8 => (((ih e (by omega) (e' + 3) (o + 1) (by omega)).2.2.1 (by omega) (by omega))).mono (by omega)) (dead_0 B n e') ht
      exact Spc.mono this (by omega)
    · obtain ⟨e, rfl⟩ : ∃ e, d = e + 1 := ⟨d - 1, by omega⟩
      obtain ⟨e', rfl⟩ : ∃ e, d' = e + 1 := ⟨d' - 1, by omega⟩
      have := product_ag (g_R e) (g_MP e') ((ih e (by omega) e' o ho).1 (by omega) (by omega)) ht
      exact Spc.mono this (by omega)
    · obtain ⟨e, rfl⟩ : ∃ e, d = e + 1 := ⟨d - 1, by omega⟩
      obtain ⟨e', rfl⟩ : ∃ e, d' = e + 1 := ⟨d' - 1, by omega⟩
      have := sum_ag (g_R e) (g_MP e') ((ih e (by omega) e' o ho).2.1 (by omega) (by omega)) ht
      exact Spc.mono this (by omega)
    · obtain ⟨e, rfl⟩ : ∃ e, d = e + 1 := ⟨d - 1, by omega⟩
      obtain ⟨e', rfl⟩ : ∃ e, d' = e + 4 := ⟨d' - 4, by omega⟩
      have i1 := ih e (by omega) (e' + 3) o ho
      exact test_ag (ME := 4 + 3 * (8 - o)) (MU := 4 + 3 * (8 - o)) (g_R e) (g_MP (e' + 3)) ho (i1.2.2.1 (by omega) (by omega)) (fun ho8 => ((ih e (by omega) (e' + 3) (o + 1) (by omega)).2.2.2.2.2 (by omega) (by omega)).mono (by omega)) (fun ho8 => ((ih e (by omega) (e' + 3) (o + 1) (by omega)).2.2.2.1 (by omega) (by omega)).mono (by omega)) (dead_3 B n e') (dead_5 B n (e' + 2)) ht (by omega) (by omega) (by omega)
    · obtain ⟨e, rfl⟩ : ∃ e, d = e + 1 := ⟨d - 1, by omega⟩
      obtain ⟨e', rfl⟩ : ∃ e, d' = e + 1 := ⟨d' - 1, by omega⟩
      have := both_ag (g_R e) (g_MP e') ((ih e (by omega) e' o ho).2.2.2.1 (by omega) (by omega)) ht
      exact Spc.mono this (by omega)
    · obtain ⟨e, rfl⟩ : ∃ e, d = e + 1 := ⟨d - 1, by omega⟩
      obtain ⟨e', rfl⟩ : ∃ e, d' = e + 1 := ⟨d' - 1, by omega⟩
      have := either_ag (g_R e) (g_MP e') ((ih e (by omega) e' o ho).2.2.2.2.1 (by omega) (by omega)) ht
      exact Spc.mono this (by omega)
