/-! ===== layer 2: text ===== -/
theorem Ket.refl (t : Nat) {σ : CS} (hW : WC σ) (τ : CS) : Ket t σ τ σ τ := ⟨FrC.refl _ _ _, FrM.refl _ _ _, hW, Nat.le_refl _, fun _ _ => rfl, fun _ _ => ⟨rfl, rfl⟩, fun _ _ _ _ _ => rfl, Nat.le_refl _, fun _ _ _ _ => rfl⟩
theorem cB_12 {τ : CS} {t : Nat} (h : ∀ s, s < t → cM τ s ≤ 12) : cB τ t ≤ 12 * t := by
  unfold cB
  have := sumN_le (f := cM τ) (b := 12) t h
  omega
abbrev FtC := FrC [2, 11, 14, 17, 52, 55, 56, 57, 58, 59] [3, 4, 5]
abbrev FtM := FrM [0, 7, 21, 22, 23, 24, 25, 26, 27] [28, 29, 30, 31, 32, 33, 34, 35, 36]
theorem text_core {σ τ : CS} {n t : Nat} (hW : WC σ) (hT : ITxt σ τ) (hC : ICls σ τ) (hn : rws σ 0 = n) (hB : ∀ k, k < n → cel σ 0 k 0 = nI (byN τ k)) (ht : rws σ 3 = t) (ht10 : t < 10) (h22 : τ.1 22 = nI n) (h23 : τ.1 23 = 0) (h24 : τ.1 24 = 0) (h25 : τ.1 25 = -1) (h26 : τ.1 26 = 0) (h27 : τ.1 27 = 0) (h52 : σ.1 52 = -1) (day : Int32) :
    ∃ v σ' τ', bnd (f_Table_size 4 σ) (fun r21 σ21 => bnd (f_Table_size 5 σ21) (fun r29 σ29 => bnd (f_Table_size 3 σ29) (fun r41 σ41 => bnd (f_Reader_begin r41 σ41) (fun _ σ44 => L_Laws_addText_50 (B_Laws_addText_82) day r21 r29 FU 0 σ44)))) = some (v, σ') ∧ bnd (f_M_blanks τ) (fun _ σ88 => L_M_text_91 (B_M_text_161) day FU 0 σ88) = some (v, τ') ∧ WC σ' ∧ ITxt σ' τ' ∧ ICls σ' τ' ∧ FrC [11, 14, 17, 52, 55, 56, 57, 58, 59] [3, 4, 5] σ σ' ∧ FrM [21, 23, 24, 25, 26, 27] [28, 29, 30, 31, 32, 33, 34, 35, 36] τ τ' ∧ σ'.1 52 = τ'.1 25 ∧ (rws σ' 3 = 10 → τ'.1 25 = -1) ∧ ((rws σ' 3 = rws σ 3 ∧ ∀ i e, i < rws σ 3 → e < 7 → cel σ' 3 i e = cel σ 3 i e) ∨ rws σ' 3 = rws σ 3 + 1) := by
  have h400 : n ≤ 400 := by rw [← hn]; exact hW.hlim (t := 0) (by omega)
  have hM12 : ∀ s, s < t → cM τ s ≤ 12 := fun s hs => (hT.2 s (by omega)).2.2.1
  have hR0 : rws σ 4 = cB τ t := by rw [hC.1, ht]
  have hR0' : rws σ 4 ≤ 12 * t := by rw [hR0]; exact cB_12 hM12
  have h5 : rws σ 5 ≤ 400 * t := by rw [← ht]; exact hC.2.1
  have h21 : τ.1 21 = nI t := by rw [hT.1, ht]
  -- the reader begins
  have FA : FrC [55, 56, 57, 58, 59] [] σ (sF (sF (sF (sF (sF σ 55 (nI n)) 56 0) 57 (nI t)) 58 0) 59 (-1)) := (FrC.f1 _ _ (by decide)).trans ((FrC.f1 _ _ (by decide)).trans ((FrC.f1 _ _ (by decide)).trans ((FrC.f1 _ _ (by decide)).trans (FrC.f1 _ _ (by decide)))))
  generalize hσa : sF (sF (sF (sF (sF σ 55 (nI n)) 56 0) 57 (nI t)) 58 0) 59 (-1) = σa at FA
  have Wa : WC σa := hW.fr FA (by decide) (by decide)
  have a55 : σa.1 55 = nI n := by rw [← hσa]; exact sF_self σ 55 _
  have a56 : σa.1 56 = nI 0 := by rw [← hσa]; exact sF_self (sF σ 55 (nI n)) 56 _
  have a57 : σa.1 57 = nI t := by rw [← hσa]; exact sF_self (sF (sF σ 55 (nI n)) 56 0) 57 _
  have a58 : σa.1 58 = 0 := by rw [← hσa]; exact sF_self (sF (sF (sF σ 55 (nI n)) 56 0) 57 (nI t)) 58 _
  have ML0 : ML (byN τ) n τ := ⟨h22, h400, fun k _ => byN_eq τ k⟩
  have CL0 : CL (byN τ) n σa := ⟨Wa, by rw [FA.fr (t := 0) (by decide)]; exact hn, h400, fun k hk => ⟨by rw [FA.fc (by decide)]; exact hB k hk, (byN_eq τ k).2⟩, a55⟩
  have P0 : PS (byN τ) n t (sk (byN τ) n 0) 0 0 σa τ := ⟨CL0, ML0, ⟨0, Nat.zero_le _, a56, rfl⟩, ⟨0, Nat.zero_le _, h23, rfl⟩, h24, h26, h27, h21, a58, h25⟩
  have hl0 := P0.le
  have er4 : rws σa 4 = rws σ 4 := FA.fr (t := 4) (by decide)
  have er5 : rws σa 5 = rws σ 5 := FA.fr (t := 5) (by decide)
  have er3 : rws σa 3 = rws σ 3 := FA.fr (t := 3) (by decide)
  have eR : f_Reader_begin (nI t) σ = some (0, σa) := by
    unfold f_Reader_begin
    rw [tb_size hW 0 (by omega), bnd_s, hn, hσa]
  obtain ⟨σ1, τ1, k1, k2⟩ := text_loop (σ0 := Att σa (sk (byN τ) n 0)) (τ0 := Bam τ (sk (byN τ) n 0)) (R0 := rws σ 4) ht10 (by omega) (by show rws σa 5 ≤ 3600; omega) day B_M_text_161 B_Laws_addText_82 day (nI (rws σ 4)) (nI (rws σ 5)) 12 0 FU FU (sk (byN τ) n 0) 0 (Att σa (sk (byN τ) n 0)) (Bam τ (sk (byN τ) n 0)) rfl (by show 14 ≤ 1000000; omega) (by show 14 ≤ 1000000; omega) (sF_self σa 56 _) (Bam_23 _ _) a57 (Ket.refl t P0.here.1.1 _) ⟨P0.here, by show rws σa 4 = _; omega, fun j hj => by omega, Nat.zero_le _, Nat.le_add_right _ _⟩
  have eM : bnd (f_M_blanks τ) (fun _ σ88 => L_M_text_91 (B_M_text_161) day FU 0 σ88) = L_M_text_91 B_M_text_161 day FU (nI 0) (Bam τ (sk (byN τ) n 0)) := by
    rw [P0.blanks, bnd_s]
    rfl
  have F1 : FrC [14, 17, 55, 56, 57, 58, 59] [4, 5] σ σ1 := (FA.mono (by decide) (by decide)).trans ((FrC.f1 σa (k := 56) _ (by decide)).trans (k1.1.mono (by decide) (by decide)))
  have G1 : FrM [23, 24, 25, 26, 27] [30, 31, 32, 33, 34, 35, 36] τ τ1 := (FrM.f1 _ _ (by decide)).trans k1.2.1
  have W1 : WC σ1 := k1.2.2.1
  obtain ⟨-, -, -, q5, q6, q7, q8, q9, q10⟩ := k1
  have c5 : ∀ i, i < rws σ 5 → cel σ1 5 i 0 = cel σ 5 i 0 := fun i hi => (q6 i (by show i < rws σa 5; omega)).trans (FA.fc (by decide) i 0)
  have c4 : ∀ i e, i < rws σ 4 → e < 9 → cel σ1 4 i e = cel σ 4 i e := fun i e hi he => (q10 i e (by show i < rws σa 4; omega) he).trans (FA.fc (by decide) i e)
  have c3 : ∀ i e, cel σ1 3 i e = cel σ 3 i e := fun i e => F1.fc (by decide) i e
  have q5' : rws σ 5 ≤ rws σ1 5 := by have : rws (Att σa (sk (byN τ) n 0)) 5 = rws σa 5 := rfl; omega
  have r13 : rws σ1 3 = t := by rw [F1.fr (t := 3) (by decide)]; exact ht
  have m28 : ∀ a, a = 28 ∨ a = 29 → τ1.2.1 a = τ.2.1 a := fun a ha => G1.2 a (by simp only [List.mem_cons, List.not_mem_nil, or_false]; omega)
  have m30 : ∀ a i, 30 ≤ a → a ≤ 34 → i < 12 * t → τ1.2.1 a i = τ.2.1 a i := fun a i h1 h2 h3 => q8 a i h1 h2 h3
  have m35 : ∀ i, i < 450 * t → τ1.2.1 35 i = τ.2.1 35 i ∧ τ1.2.1 36 i = τ.2.1 36 i := fun i hi => q7 i hi
  have g21 : τ1.1 21 = nI t := (G1.1 21 (by decide)).trans h21
  rw [tb_size hW 4 (by omega), bnd_s, tb_size hW 5 (by omega), bnd_s, tb_size hW 3 (by omega), bnd_s, ht, eR, bnd_s, add_skip P0 (lt_FU (by omega)) (by decide), eM]
  rcases k2 with ⟨K, s', c', x1, x2, x3, P', y4, yC, ycs, y5⟩ | ⟨kk, p, x, x1, x2, x3, x4, x5, x6, x7, x8, x9⟩
  rotate_left
  · -- a fault
    have x4' : L_Laws_addText_50 B_Laws_addText_82 day (nI (rws σ 4)) (nI (rws σ 5)) FU 0 (Att σa (sk (byN τ) n 0)) = B_Laws_addText_82 day (nI (rws σ 4)) (nI (rws σ 5)) σ1 := x4
    have Wf : WC (sF σ1 52 (σ1.1 59)) := sF_W W1 (by omega) _
    have rf4 : rws σ 4 ≤ rws (sF σ1 52 (σ1.1 59)) 4 := by
      show rws σ 4 ≤ rws σ1 4
      have : rws (Att σa (sk (byN τ) n 0)) 4 = rws σa 4 := rfl
      omega
    obtain ⟨σ2, d1, d2, d3, d4⟩ := tb_cut Wf 4 (by omega) rf4
    have rf5 : rws σ 5 ≤ rws σ2 5 := by
      rw [d4.fr (t := 5) (by decide)]
      exact q5'
    obtain ⟨σ3, e1, e2, e3, e4⟩ := tb_cut d2 5 (by omega) rf5
    have F3 : FrC [14, 17, 52] [] σ1 σ3 := (FrC.f1 _ _ (by decide)).trans ((d4.mono (by decide) (by decide)).trans (e4.mono (by decide) (by decide)))
    have hkk := pos3 x1 x2 rfl
    have B161 : B_M_text_161 day x τ1 = some (nI kk - 10, τ1) := by
      unfold B_M_text_161
      rw [x7, if_neg hkk.1]
    have r33 : rws σ3 3 = t := by rw [F3.fr (t := 3) (by decide)]; exact r13
    have r34 : rws σ3 4 = rws σ 4 := by rw [e4.fr (t := 4) (by decide)]; exact d3
    have e58 : σ3.1 58 = nI kk := by
      rw [e4.1 58 (by decide), d4.1 58 (by decide)]
      exact x9
    have B82 : B_Laws_addText_82 day (nI (rws σ 4)) (nI (rws σ 5)) σ1 = some (nI kk - 10, σ3) := by
      unfold B_Laws_addText_82
      rw [x9, if_neg hkk.2, d1, bnd_s, e1, bnd_s, e58]
    rw [x4', B82, x5, B161]
    refine ⟨_, σ3, τ1, rfl, rfl, e2, ⟨by rw [g21, r33], fun i hi => ?_⟩, ⟨?_, ?_, fun i hi k hk => ?_⟩, (F1.mono (by decide) (by decide)).trans (F3.mono (by decide) (by decide)), G1.mono (by decide) (by decide), ?_, fun z => by omega, Or.inl ⟨by omega, fun i e hi he => (F3.fc (by decide) i e).trans (c3 i e)⟩⟩
    · rw [r33] at hi
      exact TxR.keep (hT.2 i (by omega)) (fun e he => (F3.fc (by decide) i e).trans (c3 i e)) (congrFun (m28 28 (Or.inl rfl)) i) (congrFun (m28 29 (Or.inr rfl)) i) (fun a k h1 h2 h3 => m30 a _ h1 h2 (by omega))
    · rw [r34, r33, hR0]
      unfold cB
      exact (sumN_congr t (fun i hi => by unfold cM; rw [m28 29 (Or.inr rfl)])).symm
    · rw [e3, r33]; exact h5
    · rw [r33] at hi
      have hcM : cM τ1 i = cM τ i := by unfold cM; rw [m28 29 (Or.inr rfl)]
      rw [hcM] at hk
      have hle := cB_le τ hi
      refine (hC.2.2 i (by omega) k hk).keep ?_ (by have := hM12 i hi; omega) (fun e he => (F3.fc (by decide) _ e).trans (c4 _ e (by omega) he)) (fun a k h1 h2 h3 => m30 a _ h1 h2 (by omega)) (fun j hj => (F3.fc (by decide) j 0).trans (c5 j hj)) (by omega) (fun j hj => m35 j (by omega))
      unfold cB
      exact sumN_congr i (fun i hi => by unfold cM; rw [m28 29 (Or.inr rfl)])
    · rw [e4.1 52 (by decide), d4.1 52 (by decide), x8, ← x6]
      exact sF_self σ1 52 _
  · -- a text
    have x2' : L_Laws_addText_50 B_Laws_addText_82 day (nI (rws σ 4)) (nI (rws σ 5)) FU 0 (Att σa (sk (byN τ) n 0)) = B_Laws_addText_82 day (nI (rws σ 4)) (nI (rws σ 5)) σ1 := x2
    have p58 : σ1.1 58 = 0 := P'.2.2.2.2.2.2.2.2.1
    have hl' := P'.le
    have p24 : τ1.1 24 = 0 := P'.2.2.2.2.1
    obtain ⟨σ2, d1, d2⟩ := tb_add W1 3 (by omega) (show rws σ1 3 < 10 by omega)
    obtain ⟨d3, d4⟩ := tb_putA d2 (by omega) 0 (by decide) day (ci := 0) rfl
    obtain ⟨d5, d6⟩ := tb_putA d4 (by omega) 1 (by decide) 0 (ci := 1) rfl
    rw [r13] at d1 d3 d4 d5 d6
    have F2 := App.fr d6
    generalize pt (pt σ2 3 t 0 day) 3 t 1 0 = σ4 at d5 d6 F2
    -- the reference
    have eB : B_M_text_161 day (nI K) τ1 = some (nI t, sF (sA (sA τ1 28 (upd (τ1.2.1 28) t day)) 29 (upd (τ1.2.1 29) t (nI K))) 21 (nI (t + 1))) := by
      unfold B_M_text_161
      rw [p24, if_pos (by decide), g21, gix_n ht10 (by omega), gix_n ht10 (by omega), wrn (by omega), wrn (by omega), nI_1, nI_p1]
      simp only [va_up, reduceIte, Nat.reduceEqDiff, g21, nI_1]
    have G2 : FrM [21] [28, 29] τ1 (sF (sA (sA τ1 28 (upd (τ1.2.1 28) t day)) 29 (upd (τ1.2.1 29) t (nI K))) 21 (nI (t + 1))) := (FrM.f2 _ _ (by decide)).trans ((FrM.f2 _ _ (by decide)).trans (FrM.f1 _ _ (by decide)))
    have g28 : ∀ i, (sF (sA (sA τ1 28 (upd (τ1.2.1 28) t day)) 29 (upd (τ1.2.1 29) t (nI K))) 21 (nI (t + 1))).2.1 28 i = if i = t then day else τ1.2.1 28 i := fun i => by simp [va_up, upd]
    have g29 : ∀ i, (sF (sA (sA τ1 28 (upd (τ1.2.1 28) t day)) 29 (upd (τ1.2.1 29) t (nI K))) 21 (nI (t + 1))).2.1 29 i = if i = t then nI K else τ1.2.1 29 i := fun i => by simp [va_up, upd]
    have g21' : (sF (sA (sA τ1 28 (upd (τ1.2.1 28) t day)) 29 (upd (τ1.2.1 29) t (nI K))) 21 (nI (t + 1))).1 21 = nI (t + 1) := sF_self _ 21 _
    generalize sF (sA (sA τ1 28 (upd (τ1.2.1 28) t day)) 29 (upd (τ1.2.1 29) t (nI K))) 21 (nI (t + 1)) = τ3 at eB G2 g28 g29 g21'
    have m3 : ∀ a, 30 ≤ a → a ≤ 36 → τ3.2.1 a = τ1.2.1 a := fun a h1 h2 => G2.2 a (by simp only [List.mem_cons, List.not_mem_nil, or_false]; omega)
    have C4 : ∀ j, j < K → Cln σ4 τ3 t j (rws σ 4 + j) (12 * t + j) c' := fun j hj => (yC j hj).sm (fun i c => F2.fc (by decide) i c) (fun i c => F2.fc (by decide) i c) (F2.fr (t := 5) (by decide)) m3
    have r44 : rws σ4 4 = rws σ 4 + K := by rw [F2.fr (t := 4) (by decide)]; exact y4
    have n0 : cel σ4 3 t 0 = day := by
      have := d6.2.2.2.2.1 0 (by decide)
      rw [r13] at this
      rw [this]
      simp [upd]
    have n1 : cel σ4 3 t 1 = nI (undN τ3 t 0) := by
      have := d6.2.2.2.2.1 1 (by decide)
      rw [r13] at this
      rw [this]
      simp [upd]
      rfl
    have n2 : ∀ w, w < 5 → cel σ4 3 t (2 + w) = lst τ3 t w 0 := fun w hw => by
      have := d6.2.2.2.2.1 (2 + w) (show 2 + w < 7 by omega)
      rw [r13] at this
      rw [this]
      unfold upd
      rw [if_neg (by omega), if_neg (by omega)]
      rfl
    have n3 : rws σ4 3 = t + 1 := by rw [d6.2.1, r13]
    obtain ⟨σ5, b1, b2, b3, b4, b5, b6, b7⟩ := keep_loop (τ := τ3) (t := t) (R0 := rws σ 4) (N := K) (C := c') K 0 FU σ4 (by omega) (lt_FU (by omega)) d6.1 (by omega) r44 (by omega) C4 n1 n2
    have b1' : L_Laws_addText_164 (nI t) FU (nI (rws σ 4)) σ4 = some (nI t, σ5) := b1
    have F5 : FrC [11] [3] σ1 σ5 := F2.trans (b3.mono (by decide) (by decide))
    have r53 : rws σ5 3 = t + 1 := by rw [b3.fr (t := 3) (by decide)]; exact n3
    have cMt : cM τ3 t = K := by
      unfold cM
      rw [g29, if_pos rfl, nI_clamp (by omega)]
    have cMo : ∀ i, i < t → cM τ3 i = cM τ i := fun i hi => by
      unfold cM
      rw [g29, if_neg (by omega), m28 29 (Or.inr rfl)]
    have cBo : ∀ i, i ≤ t → cB τ3 i = cB τ i := fun i hi => by
      unfold cB
      exact sumN_congr i (fun j hj => cMo j (by omega))
    have mo : ∀ a i, 30 ≤ a → a ≤ 34 → i < 12 * t → τ3.2.1 a i = τ.2.1 a i := fun a i h1 h2 h3 => (congrFun (m3 a h1 (by omega)) i).trans (m30 a i h1 h2 h3)
    have co3 : ∀ i e, i < t → e < 7 → cel σ5 3 i e = cel σ 3 i e := fun i e hi he => by
      rw [b4 i e (by omega) he, d6.2.2.2.2.2 i e (by omega) (show e < wid 3 from he), c3]
    have C5 : ∀ j, j < K → Cln σ5 τ3 t j (rws σ 4 + j) (12 * t + j) c' := fun j hj => (C4 j hj).sm (fun i c => b3.fc (by decide) i c) (fun i c => b3.fc (by decide) i c) (b3.fr (t := 5) (by decide)) (fun _ _ _ => rfl)
    have B82 : B_Laws_addText_82 day (nI (rws σ 4)) (nI (rws σ 5)) σ1 = some (nI t, σ5) := by
      unfold B_Laws_addText_82
      rw [p58, if_pos rfl, d1, bnd_s, d3, bnd_s, d5, bnd_s, b1']
    rw [x2', B82, x3, eB]
    refine ⟨_, σ5, τ3, rfl, rfl, b2, ⟨by rw [g21', r53], fun i hi => ?_⟩, ⟨?_, ?_, fun i hi k hk => ?_⟩, (F1.mono (by decide) (by decide)).trans (F5.mono (by decide) (by decide)), (G1.mono (by decide) (by decide)).trans (G2.mono (by decide) (by decide)), ?_, fun _ => ?_, Or.inr (by omega)⟩
    · rw [r53] at hi
      by_cases z : i = t
      · subst z
        show TxR σ5 τ3 i
        unfold TxR
        rw [cMt, g28, g29, if_pos rfl, if_pos rfl, b5, n0]
        exact ⟨rfl, rfl, x1, b6, b7, fun k hk => (C5 k hk).2.2.2.2.2.1⟩
      · exact TxR.keep (hT.2 i (by omega)) (fun e he => co3 i e (by omega) he) (by rw [g28, if_neg z, m28 28 (Or.inl rfl)]) (by rw [g29, if_neg z, m28 29 (Or.inr rfl)]) (fun a k h1 h2 h3 => mo a _ h1 h2 (by omega))
    · rw [b3.fr (t := 4) (by decide), r44, r53, cB_succ, cBo t (Nat.le_refl _), cMt, hR0]
    · rw [b3.fr (t := 5) (by decide), F2.fr (t := 5) (by decide), r53]
      have : rws (Att σa (sk (byN τ) n 0)) 5 = rws σa 5 := rfl
      omega
    · rw [r53] at hi
      by_cases z : i = t
      · subst z
        rw [cMt] at hk
        exact (C5 k hk).cls (by rw [cBo i (Nat.le_refl _), hR0]) (by omega)
      · have hi' : i < t := by omega
        rw [cMo i hi'] at hk
        have hle := cB_le τ hi'
        exact (hC.2.2 i (by omega) k hk).keep (cBo i (by omega)) (by have := hM12 i hi'; omega) (fun e he => (F5.fc (by decide) _ e).trans (c4 _ e (by omega) he)) (fun a k h1 h2 h3 => mo a _ h1 h2 (by omega)) (fun j hj => (F5.fc (by decide) j 0).trans (c5 j hj)) (by rw [F5.fr (t := 5) (by decide)]; exact q5') (fun j hj => by rw [m3 35 (by omega) (by omega), m3 36 (by omega) (by omega)]; exact m35 j (by omega))
    · have e52 : σ5.1 52 = σ.1 52 := (F5.1 52 (by decide)).trans (F1.1 52 (by decide))
      rw [e52, h52, G2.1 25 (by decide)]
      exact P'.2.2.2.2.2.2.2.2.2.symm
    · rw [G2.1 25 (by decide)]
      exact P'.2.2.2.2.2.2.2.2.2
abbrev JTxt (σ τ σ1 τ1 : CS) : Prop := WC σ1 ∧ ITap σ1 τ1 ∧ ITxt σ1 τ1 ∧ ICls σ1 τ1 ∧ FtC σ σ1 ∧ FtM τ τ1 ∧ σ1.1 52 = τ1.1 25 ∧ (rws σ1 3 = 10 → τ1.1 25 = -1) ∧ ((rws σ1 3 = rws σ 3 ∧ ∀ i e, i < rws σ 3 → e < 7 → cel σ1 3 i e = cel σ 3 i e) ∨ rws σ1 3 = rws σ 3 + 1)
theorem pm_text {σ τ : CS} (hW : WC σ) (hA : ITap σ τ) (hT : ITxt σ τ) (hC : ICls σ τ) (hF : σ.1 52 = τ.1 25) (hF10 : rws σ 3 = 10 → τ.1 25 = -1) (a0 a1 : Int32) : AgX (f_FC_text a0 a1 σ) (f_M_text a0 a1 τ) (fun c0 => c0 = 0 ∨ c0 = 1) (fun c0 => (if c0 = 0 then (0 : Int32) else 1)) (JTxt σ τ) := by
  have h400 : rws σ 0 ≤ 400 := hW.hlim (t := 0) (by omega)
  have h10 : rws σ 3 ≤ 10 := hW.hlim (t := 3) (by omega)
  have smT : ∀ c, SmT τ (sF (sF τ 0 0) 0 c) := fun c => ⟨rfl, fun _ _ _ => rfl⟩
  have thr2 : ∀ c, JTxt σ τ σ (sF (sF τ 0 0) 0 c) := fun c => ⟨hW, ITap.thr _ _ (ITap.thr _ _ hA), hT.fr rfl rfl (smT c), hC.fr rfl rfl rfl rfl rfl (smT c) rfl rfl, FrC.refl _ _ _, (FrM.f1 _ _ (by decide)).trans (FrM.f1 _ _ (by decide)), hF, hF10, Or.inl ⟨rfl, fun _ _ _ _ => rfl⟩⟩
  unfold f_FC_text f_M_text B_FC_text_26
  simp only [fc_isDay, fm_isDay, bnd_s]
  by_cases q0 : a0 < 0 ∨ 100000 < a0
  · simp only [if_pos q0, if_true, B_FC_text_27, B_M_text_30, fm_bad1, bnd_s, if_neg i10]
    exact AgX.mk 1 0 σ 0 _ rfl (Or.inr rfl) rfl rfl (fun z => absurd z (by decide)) (thr2 _)
  simp only [if_neg q0, if_neg i10, tb_size hW 0 (by omega), bnd_s, fc_within, va_up, reduceIte, Nat.reduceEqDiff, hA.1]
  by_cases q1 : a1 < 0 ∨ nI (rws σ 0) < a1
  · have eM : (if a1 < 0 then B_M_text_30 a0 a1 1 (sF τ 0 0) else if a1 ≤ nI (rws σ 0) then B_M_text_30 a0 a1 0 (sF τ 0 0) else B_M_text_30 a0 a1 1 (sF τ 0 0)) = B_M_text_30 a0 a1 1 (sF τ 0 0) := by
      by_cases z : a1 < 0
      · rw [if_pos z]
      · rw [if_neg z, if_neg (Int32.not_le.mpr (q1.resolve_left z))]
    rw [eM]
    simp only [if_pos q1, if_true, B_FC_text_27, B_M_text_30, fm_bad1, bnd_s, if_neg i10]
    exact AgX.mk 1 0 σ 0 _ rfl (Or.inr rfl) rfl rfl (fun z => absurd z (by decide)) (thr2 _)
  rw [if_neg (fun z => q1 (Or.inl z)), if_pos (Int32.not_lt.mp (fun z => q1 (Or.inr z))), if_neg q1, if_neg i10]
  obtain ⟨n, hn, rfl⟩ := Rg.of q1 (n := rws σ 0) rfl (by omega) (by decide)
  obtain ⟨σ1, c1, c2, c3, c4⟩ := tb_cut hW 0 (by omega) hn
  have F1 : FrC [2, 52] [] σ (sF σ1 52 (-1)) := (c4.mono (by decide) (by decide)).trans (FrC.f1 _ _ (by decide))
  have W1 : WC (sF σ1 52 (-1)) := sF_W c2 (by omega) _
  have s52 : (sF σ1 52 (-1)).1 52 = -1 := sF_self σ1 52 _
  have r10 : rws (sF σ1 52 (-1)) 0 = n := c3
  have r13 : rws (sF σ1 52 (-1)) 3 = rws σ 3 := F1.fr (t := 3) (by decide)
  have T1 : ∀ τ', SmT τ τ' → ITxt (sF σ1 52 (-1)) τ' := fun τ' s => hT.fr (F1.1 11 (by decide)) (F1.2 3 (by decide)).1 s
  have C1 : ∀ τ', SmT τ τ' → τ'.2.1 35 = τ.2.1 35 → τ'.2.1 36 = τ.2.1 36 → ICls (sF σ1 52 (-1)) τ' := fun τ' s e1 e2 => hC.fr (F1.1 11 (by decide)) (F1.1 14 (by decide)) (F1.1 17 (by decide)) (F1.2 4 (by decide)).1 (F1.2 5 (by decide)).1 s e1 e2
  -- the end: the tape is cut
  have fin : ∀ (v : Int32) (σ2 τ2 : CS), f_Laws_addText a0 σ1 = some (v, σ2) → B_M_text_30 a0 (nI n) 0 (sF τ 0 0) = some (v, τ2) → WC σ2 → ITxt σ2 τ2 → ICls σ2 τ2 → FrC [11, 14, 17, 52, 55, 56, 57, 58, 59] [3, 4, 5] (sF σ1 52 (-1)) σ2 → FrM [7, 21, 22, 23, 24, 25, 26, 27] [28, 29, 30, 31, 32, 33, 34, 35, 36] (sF τ 0 0) τ2 → τ2.1 7 = 0 → σ2.1 52 = τ2.1 25 → (rws σ2 3 = 10 → τ2.1 25 = -1) → ((rws σ2 3 = rws σ 3 ∧ ∀ i e, i < rws σ 3 → e < 7 → cel σ2 3 i e = cel σ 3 i e) ∨ rws σ2 3 = rws σ 3 + 1) → AgX (B_FC_text_27 a0 (nI n) 1 σ) (B_M_text_30 a0 (nI n) 0 (sF τ 0 0)) (fun c0 => c0 = 0 ∨ c0 = 1) (fun c0 => (if c0 = 0 then (0 : Int32) else 1)) (JTxt σ τ) := by
    intro v σ2 τ2 g1 g2 w1 w2 w3 w4 w5 w6 w7 w8 w9
    obtain ⟨σ3, d1, d2, d3, d4⟩ := tb_cut w1 0 (by omega) (k := 0) (by omega)
    have d1' : f_Table_cut 0 0 σ2 = some (0, σ3) := d1
    have z0 : τ2.1 0 = 0 := (w5.1 0 (by decide)).trans (sF_self τ 0 0)
    refine AgX.mk 0 v σ3 v τ2 ?_ (Or.inl rfl) g2 z0 (fun _ => rfl) ⟨d2, ⟨?_, fun i hi => absurd hi (by rw [d3]; omega)⟩, w2.fr (d4.1 11 (by decide)) (d4.2 3 (by decide)).1 ⟨rfl, fun _ _ _ => rfl⟩, w3.fr (d4.1 11 (by decide)) (d4.1 14 (by decide)) (d4.1 17 (by decide)) (d4.2 4 (by decide)).1 (d4.2 5 (by decide)).1 ⟨rfl, fun _ _ _ => rfl⟩ rfl rfl, (F1.mono (by decide) (by decide)).trans ((w4.mono (by decide) (by decide)).trans (d4.mono (by decide) (by decide))), (FrM.f1 _ _ (by decide)).trans (w5.mono (by decide) (by decide)), ?_, ?_, ?_⟩
    · unfold B_FC_text_27
      rw [if_neg i10, c1, bnd_s, g1, bnd_s, d1', bnd_s]
    · rw [d3, w6]
      rfl
    · rw [d4.1 52 (by decide)]; exact w7
    · rw [d4.fr (t := 3) (by decide)]; exact w8
    · rw [d4.fr (t := 3) (by decide)]
      rcases w9 with ⟨y1, y2⟩ | y
      · exact Or.inl ⟨y1, fun i e hi he => (d4.fc (by decide) i e).trans (y2 i e hi he)⟩
      · exact Or.inr y
  by_cases q2 : rws σ 3 < lim 3
  · have q2' : rws σ 3 < 10 := q2
    have q2n : ¬ nI (rws σ 3) = 10 := fun z => (nI_full (n := 10) (L := 10) rfl h10 (by omega)).mp z q2'
    have eF : f_Table_isFull 3 (sF σ1 52 (-1)) = some (0, sF σ1 52 (-1)) := by rw [tb_full W1 3 (by omega), r13, if_pos q2]
    have G0 : FrM [7, 22, 23, 24, 25, 26, 27] [] (sF τ 0 0) (sF (sF (sF (sF (sF (sF (sF (sF τ 0 0) 22 (nI n)) 7 0) 23 0) 24 0) 25 (-1)) 26 0) 27 0) := (FrM.f1 _ _ (by decide)).trans ((FrM.f1 _ _ (by decide)).trans ((FrM.f1 _ _ (by decide)).trans ((FrM.f1 _ _ (by decide)).trans ((FrM.f1 _ _ (by decide)).trans ((FrM.f1 _ _ (by decide)).trans (FrM.f1 _ _ (by decide)))))))
    have s0 : SmT τ (sF (sF (sF (sF (sF (sF (sF (sF τ 0 0) 22 (nI n)) 7 0) 23 0) 24 0) 25 (-1)) 26 0) 27 0) := ⟨rfl, fun _ _ _ => rfl⟩
    obtain ⟨v, σ2, τ2, g1, g2, g3, g4, g5, g6, g7, g8, g9, g10⟩ := text_core (σ := sF σ1 52 (-1)) (τ := sF (sF (sF (sF (sF (sF (sF (sF τ 0 0) 22 (nI n)) 7 0) 23 0) 24 0) 25 (-1)) 26 0) 27 0) W1 (T1 _ s0) (C1 _ s0 rfl rfl) r10 (fun k hk => by rw [F1.fc (by decide), hA.2 k (by omega)]; exact (byN_eq τ k).1) r13 q2' (sF_self (sF τ 0 0) 22 _) (sF_self (sF (sF (sF τ 0 0) 22 (nI n)) 7 0) 23 _) (sF_self (sF (sF (sF (sF τ 0 0) 22 (nI n)) 7 0) 23 0) 24 _) (sF_self (sF (sF (sF (sF (sF τ 0 0) 22 (nI n)) 7 0) 23 0) 24 0) 25 _) (sF_self (sF (sF (sF (sF (sF (sF τ 0 0) 22 (nI n)) 7 0) 23 0) 24 0) 25 (-1)) 26 _) (sF_self _ 27 _) s52 a0
    refine fin v σ2 τ2 ?_ ?_ g3 g4 g5 g6 ((G0.mono (by decide) (by decide)).trans (g7.mono (by decide) (by decide))) ((g7.1 7 (by decide)).trans (sF_self (sF (sF τ 0 0) 22 (nI n)) 7 0)) g8 g9 ?_
    · unfold f_Laws_addText
      rw [eF, bnd_s, if_pos rfl]
      exact g1
    · unfold B_M_text_30
      rw [fm_bad0, bnd_s, if_pos rfl, show (sF τ 0 0).1 21 = nI (rws σ 3) from hT.1, if_neg q2n]
      exact g2
    · rw [r13] at g10
      rcases g10 with ⟨y1, y2⟩ | y
      · exact Or.inl ⟨y1, fun i e hi he => (y2 i e hi he).trans (F1.fc (by decide) i e)⟩
      · exact Or.inr y
  · have q2' : ¬ rws σ 3 < 10 := q2
    have eF : f_Table_isFull 3 (sF σ1 52 (-1)) = some (1, sF σ1 52 (-1)) := by rw [tb_full W1 3 (by omega), r13, if_neg q2]
    have s0 : SmT τ (sF (sF (sF τ 0 0) 22 (nI n)) 7 0) := ⟨rfl, fun _ _ _ => rfl⟩
    have t25 : (sF (sF (sF τ 0 0) 22 (nI n)) 7 0).1 25 = -1 := hF10 (by omega)
    refine fin (-1) (sF σ1 52 (-1)) (sF (sF (sF τ 0 0) 22 (nI n)) 7 0) ?_ ?_ W1 (T1 _ s0) (C1 _ s0 rfl rfl) (FrC.refl _ _ _) ((FrM.f1 _ _ (by decide)).trans (FrM.f1 _ _ (by decide))) (sF_self _ 7 0) (s52.trans t25.symm) (fun _ => t25) (Or.inl ⟨r13, fun i e _ _ => F1.fc (by decide) i e⟩)
    · unfold f_Laws_addText
      rw [eF, bnd_s, if_neg i10]
    · unfold B_M_text_30
      rw [fm_bad0, bnd_s, if_pos rfl, show (sF τ 0 0).1 21 = nI (rws σ 3) from hT.1, if_pos ((nI_full (n := 10) (L := 10) rfl h10 (by omega)).mpr q2')]
