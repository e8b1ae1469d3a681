/-! ===== layer 2: spots, claims, uses; counts ===== -/
def ISpo (σ τ : CS) : Prop := τ.1 92 = nI (rws σ 13) ∧ ∀ i, i < rws σ 13 → τ.2.1 93 i = cel σ 13 i 0 ∧ τ.2.1 94 i = cel σ 13 i 1 ∧ τ.2.1 95 i = cel σ 13 i 2 ∧ Rg (cel σ 13 i 0) 999 ∧ Rg (cel σ 13 i 1) 999 ∧ Rg (cel σ 13 i 2) 1000
theorem ISpo.fr {σ τ σ' τ' : CS} (h : ISpo σ τ) (e1 : σ'.1 41 = σ.1 41) (e2 : σ'.2.1 13 = σ.2.1 13) (e3 : τ'.1 92 = τ.1 92) (e4 : τ'.2.1 93 = τ.2.1 93) (e5 : τ'.2.1 94 = τ.2.1 94) (e6 : τ'.2.1 95 = τ.2.1 95) : ISpo σ' τ' := by
  have r : rws σ' 13 = rws σ 13 := by unfold rws; rw [show 3 * 13 + 2 = 41 from rfl, e1]
  have c : ∀ i c, cel σ' 13 i c = cel σ 13 i c := fun i c => by unfold cel; rw [e2]
  unfold ISpo
  simp only [r, c, e3, e4, e5, e6]
  exact h
theorem ISpo.thr {σ : CS} (τ : CS) (c : Int32) (h : ISpo σ τ) : ISpo σ (sF τ 0 c) := h.fr rfl rfl rfl rfl rfl rfl
theorem pm_spot {σ τ : CS} (hW : WC σ) (hP : ISpo σ τ) (a0 a1 a2 : Int32) : AgX (f_FC_spot a0 a1 a2 σ) (f_M_spot a0 a1 a2 τ) (fun c0 => c0 = 0 ∨ c0 = 1) (fun c0 => (if c0 = 0 then (0 : Int32) else 1)) (fun σ1 τ1 => Jg [41, 68] [13] [0, 92] [93, 94, 95] ISpo σ τ σ1 τ1 ∧ (σ1.1 68 = 1 ∨ (σ1 = σ ∧ FrM [0] [] τ τ1))) := by
  have h40 : rws σ 13 ≤ 8 := hW.hlim (t := 13) (by omega)
  have thr2 : ∀ c, Jg [41, 68] [13] [0, 92] [93, 94, 95] ISpo σ τ σ (sF (sF τ 0 0) 0 c) ∧ ((σ.1 68 = 1) ∨ (σ = σ ∧ FrM [0] [] τ (sF (sF τ 0 0) 0 c))) := fun c => ⟨Jg.thr2 hW ISpo.thr hP (by decide) _ _, Or.inr ⟨rfl, (FrM.f1 _ _ (by decide)).trans (FrM.f1 _ _ (by decide))⟩⟩
  unfold f_FC_spot f_M_spot B_FC_spot_23
  simp only [fc_isPlace, fm_isPlace, fc_within, fm_in, bnd_s]
  by_cases q0 : badP a0 a1
  · simp only [if_pos q0, if_true, B_FC_spot_24, B_M_spot_30, fm_bad1, bnd_s, if_neg i10]
    exact AgX.mk 1 0 σ 0 _ rfl (Or.inr rfl) rfl rfl (fun z => absurd z (by decide)) (thr2 _)
  simp only [if_neg q0, if_neg i10]
  by_cases q1 : a2 < 1 ∨ 1000 < a2
  · simp only [if_pos q1, if_true, B_FC_spot_24, B_M_spot_30, fm_bad1, bnd_s, if_neg i10]
    exact AgX.mk 1 0 σ 0 _ rfl (Or.inr rfl) rfl rfl (fun z => absurd z (by decide)) (thr2 _)
  simp only [if_neg q1, if_neg i10, B_FC_spot_24, B_M_spot_30, fm_bad0, bnd_s, if_true, va_up, reduceIte, Nat.reduceEqDiff, hP.1, f_Patrols_addSpot]
  by_cases q3 : rws σ 13 < 8
  · rw [if_neg (fun z => (nI_full (n := 8) (L := 8) rfl h40 (by omega)).mp z q3)]
    simp only [gix_n q3 (show 8 < 2147483648 by omega), wrn (show rws σ 13 < 2147483648 by omega)]
    obtain ⟨σ1, e1, A1⟩ := tb_add hW 13 (by omega) q3
    obtain ⟨e2, A2⟩ := tb_putA A1 (by omega) 0 (by decide) a0 (ci := 0) rfl
    obtain ⟨e3, A3⟩ := tb_putA A2 (by omega) 1 (by decide) a1 (ci := 1) rfl
    obtain ⟨e4, A4⟩ := tb_putA A3 (by omega) 2 (by decide) a2 (ci := 2) rfl
    simp only [e1, bnd_s, e2, e3, e4]
    refine AgX.mk 0 (nI (rws σ 13)) _ _ _ rfl (Or.inl rfl) rfl rfl (fun _ => by rw [nI_1, nI_p1]) ⟨⟨sF_W A4.1 (by omega) _, ?_, (A4.fr.mono (by decide) (by decide)).trans (FrC.f1 _ _ (by decide)), ?_⟩, Or.inl ?_⟩
    · obtain ⟨-, b2, -, -, b5, b6⟩ := A4
      have er : ∀ σ' : CS, rws (sF σ' 68 1) 13 = rws σ' 13 := fun σ' => sF_rw _ (by omega) _ (by omega)
      have ec : ∀ (σ' : CS) (i c : Nat), cel (sF σ' 68 1) 13 i c = cel σ' 13 i c := fun _ _ _ => rfl
      unfold ISpo
      simp only [er, ec, b2]
      refine ⟨?_, fun i hi => ?_⟩
      · simp only [va_up, reduceIte, nI_1]
      · simp only [va_up, reduceIte, Nat.reduceEqDiff]
        by_cases qi : i = rws σ 13
        · subst qi
          rw [b5 0 (by decide), b5 1 (by decide), b5 2 (by decide)]
          simp only [upd, reduceIte, Nat.reduceEqDiff, true_and]
          exact ⟨(badP_n q0).1, (badP_n q0).2, Rg.of q1 (n := 1000) rfl (by omega) (by decide)⟩
        · have hi' : i < rws σ 13 := by omega
          rw [b6 i 0 hi' (by decide), b6 i 1 hi' (by decide), b6 i 2 hi' (by decide)]
          simp only [upd, if_neg qi]
          exact hP.2 i hi'
    · exact (FrM.f1 _ _ (by decide)).trans ((FrM.f2 _ _ (by decide)).trans ((FrM.f2 _ _ (by decide)).trans ((FrM.f2 _ _ (by decide)).trans (FrM.f1 _ _ (by decide)))))
    · simp only [va_up, reduceIte]
  · rw [if_pos ((nI_full (n := 8) (L := 8) rfl h40 (by omega)).mpr q3)]
    simp only [tb_add_full hW 13 (by omega) q3, bnd_s, tb_put_neg 13 (show (-1 : Int32) < 0 by decide)]
    refine AgX.mk 0 _ _ _ _ rfl (Or.inl rfl) rfl rfl (fun _ => rfl) ⟨⟨sF_W hW (by omega) _, ?_, FrC.f1 _ _ (by decide), FrM.f1 _ _ (by decide)⟩, Or.inl ?_⟩
    · exact hP.fr rfl rfl rfl rfl rfl rfl
    · simp only [va_up, reduceIte]
/-! claims -/
def um (τ : CS) (c : Nat) : Nat := (τ.2.1 76 c).toNatClampNeg
def ICla (σ τ : CS) : Prop := τ.1 71 = nI (rws σ 7) ∧ (∀ c, c < rws σ 7 → τ.2.1 72 c = cel σ 7 c 0 ∧ τ.2.1 73 c = cel σ 7 c 1 ∧ τ.2.1 74 c = cel σ 7 c 2 ∧ τ.2.1 75 c = cel σ 7 c 3 ∧ τ.2.1 76 c = cel σ 7 c 4 ∧ Ix (cel σ 7 c 0) (rws σ 6) ∧ Rg (cel σ 7 c 1) 5 ∧ Rg (cel σ 7 c 2) 999 ∧ Rg (cel σ 7 c 3) 999 ∧ Rg (cel σ 7 c 4) 60) ∧ (∀ c, rws σ 7 ≤ c → c < 20 → τ.2.1 76 c = 0) ∧
  sumN (um τ) 20 = rws σ 8 ∧
  (∀ e, e < rws σ 8 → ∃ c k, c < rws σ 7 ∧ k < um τ c ∧ cel σ 8 e 0 = nI c ∧ cel σ 8 e 1 = τ.2.1 77 (60 * c + k) ∧ cel σ 8 e 2 = τ.2.1 78 (60 * c + k)) ∧
  (∀ c k, c < rws σ 7 → k < um τ c → ∃ e, e < rws σ 8 ∧ cel σ 8 e 0 = nI c ∧ cel σ 8 e 1 = τ.2.1 77 (60 * c + k) ∧ cel σ 8 e 2 = τ.2.1 78 (60 * c + k)) ∧
  (∀ e, e < rws σ 8 → Rg (cel σ 8 e 1) 1 ∧ Rg (cel σ 8 e 2) 100000)
theorem ICla.fr {σ τ σ' τ' : CS} (h : ICla σ τ) (e0 : rws σ 6 ≤ rws σ' 6) (e1 : σ'.1 23 = σ.1 23) (e2 : σ'.1 26 = σ.1 26) (e3 : σ'.2.1 7 = σ.2.1 7) (e4 : σ'.2.1 8 = σ.2.1 8) (e5 : τ'.1 71 = τ.1 71) (e6 : τ'.2.1 72 = τ.2.1 72) (e7 : τ'.2.1 73 = τ.2.1 73) (e8 : τ'.2.1 74 = τ.2.1 74) (e9 : τ'.2.1 75 = τ.2.1 75) (e10 : τ'.2.1 76 = τ.2.1 76) (e11 : τ'.2.1 77 = τ.2.1 77) (e12 : τ'.2.1 78 = τ.2.1 78) : ICla σ' τ' := by
  have r7 : rws σ' 7 = rws σ 7 := by unfold rws; rw [show 3 * 7 + 2 = 23 from rfl, e1]
  have r8 : rws σ' 8 = rws σ 8 := by unfold rws; rw [show 3 * 8 + 2 = 26 from rfl, e2]
  have c7 : ∀ i c, cel σ' 7 i c = cel σ 7 i c := fun i c => by unfold cel; rw [e3]
  have c8 : ∀ i c, cel σ' 8 i c = cel σ 8 i c := fun i c => by unfold cel; rw [e4]
  have u : um τ' = um τ := by funext c; unfold um; rw [e10]
  unfold ICla
  simp only [r7, r8, c7, c8, u, e5, e6, e7, e8, e9, e10, e11, e12]
  refine ⟨h.1, fun c hc => ?_, h.2.2⟩
  obtain ⟨a1, a2, a3, a4, a5, a6, a7⟩ := h.2.1 c hc
  exact ⟨a1, a2, a3, a4, a5, a6.mono e0, a7⟩
theorem ICla.thr {σ : CS} (τ : CS) (c : Int32) (h : ICla σ τ) : ICla σ (sF τ 0 c) := h.fr (Nat.le_refl _) rfl rfl rfl rfl rfl rfl rfl rfl rfl rfl rfl rfl
abbrev JCla := Jg [23, 26] [7, 8] [0, 71] [72, 73, 74, 75, 76, 77, 78] ICla
theorem pm_claim {σ τ : CS} (hW : WC σ) (hP6 : IPeo σ τ) (hP : ICla σ τ) (a0 a1 a2 a3 : Int32) : AgX (f_FC_claim a0 a1 a2 a3 σ) (f_M_claim a0 a1 a2 a3 τ) (fun c0 => c0 = 0 ∨ c0 = 3 ∨ c0 = 1) (fun c0 => (if c0 = 0 then (0 : Int32) else if c0 = 3 then 1 else 2)) (JCla σ τ) := by
  have h40 : rws σ 7 ≤ 20 := hW.hlim (t := 7) (by omega)
  have e38 : (sF τ 0 0).1 38 = nI (rws σ 6) := hP6.1
  unfold f_FC_claim f_M_claim B_FC_claim_34
  by_cases q0 : ∃ j, j < rws σ 6 ∧ a0 = nI j
  · obtain ⟨j, hj, rfl⟩ := q0
    simp only [tb_has1 hW 6 (by omega) hj, isPer_m hW e38 hj, bnd_s, if_neg i10, B_M_claim_19, fm_bad0, if_true, fc_isAct, fm_in, fc_isPlace, fm_isPlace]
    by_cases q1 : a1 < 0 ∨ 5 < a1
    · simp only [if_pos q1, if_true, B_FC_claim_35, B_M_claim_50, fm_bad1, bnd_s, if_neg i10]
      exact AgX.mk 1 0 σ 0 _ rfl (Or.inr (Or.inr rfl)) rfl rfl (fun z => absurd z (by decide)) (Jg.thr2 hW ICla.thr hP (by decide) _ _)
    simp only [if_neg q1, if_neg i10]
    by_cases q2 : badP a2 a3
    · simp only [if_pos q2, if_true, B_FC_claim_35, B_M_claim_50, fm_bad1, bnd_s, if_neg i10]
      exact AgX.mk 1 0 σ 0 _ rfl (Or.inr (Or.inr rfl)) rfl rfl (fun z => absurd z (by decide)) (Jg.thr2 hW ICla.thr hP (by decide) _ _)
    simp only [if_neg q2, if_neg i10, B_FC_claim_35, B_M_claim_50, fm_bad0, bnd_s, if_true, va_up, reduceIte, Nat.reduceEqDiff, hP.1, f_Claims_addClaim]
    by_cases q3 : rws σ 7 < 20
    · rw [if_neg (fun z => (nI_full (n := 20) (L := 20) rfl h40 (by omega)).mp z q3)]
      simp only [gix_n q3 (show 20 < 2147483648 by omega), wrn (show rws σ 7 < 2147483648 by omega)]
      obtain ⟨σ1, e1, A1⟩ := tb_add hW 7 (by omega) q3
      obtain ⟨e2, A2⟩ := tb_putA A1 (by omega) 0 (by decide) (nI j) (ci := 0) rfl
      obtain ⟨e3, A3⟩ := tb_putA A2 (by omega) 1 (by decide) a1 (ci := 1) rfl
      obtain ⟨e4, A4⟩ := tb_putA A3 (by omega) 2 (by decide) a2 (ci := 2) rfl
      obtain ⟨e5, A5⟩ := tb_putA A4 (by omega) 3 (by decide) a3 (ci := 3) rfl
      obtain ⟨e6, A6⟩ := tb_putA A5 (by omega) 4 (by decide) 0 (ci := 4) rfl
      simp only [e1, bnd_s, e2, e3, e4, e5, e6]
      refine AgX.mk 0 (nI (rws σ 7)) _ _ _ rfl (Or.inl rfl) rfl rfl (fun _ => by rw [nI_1, nI_p1]) ⟨A6.1, ?_, A6.fr.mono (by decide) (by decide), ?_⟩
      · have r6 := A6.fr.fr (t := 6) (by decide)
        have r8 := A6.fr.fr (t := 8) (by decide)
        have c8 : ∀ i c, _ := fun i c => A6.fr.fc (t := 8) (by decide) i c
        obtain ⟨-, b2, -, -, b5, b6⟩ := A6
        have hu : um (sF (sA (sA (sA (sA (sF τ 0 0) 72 (upd (τ.2.1 72) (rws σ 7) (nI j))) 73 (upd (τ.2.1 73) (rws σ 7) a1)) 74 (upd (τ.2.1 74) (rws σ 7) a2)) 75 (upd (τ.2.1 75) (rws σ 7) a3)) 71 (nI (rws σ 7) + 1)) = um τ := rfl
        have h0 := hP.2.2.1 (rws σ 7) (Nat.le_refl _) q3
        unfold ICla
        simp only [b2, r6, r8, c8]
        refine ⟨?_, fun c hc => ?_, fun c hc1 hc2 => ?_, ?_, fun e he => ?_, fun c k hc hk => ?_, ?_⟩
        · simp only [va_up, reduceIte, nI_1]
        · simp only [va_up, reduceIte, Nat.reduceEqDiff]
          by_cases qi : c = rws σ 7
          · subst qi
            rw [b5 0 (by decide), b5 1 (by decide), b5 2 (by decide), b5 3 (by decide), b5 4 (by decide)]
            simp only [upd, reduceIte, Nat.reduceEqDiff, true_and]
            exact ⟨h0, ⟨j, hj, rfl⟩, Rg.of q1 (n := 5) rfl (by omega) (by decide), (badP_n q2).1, (badP_n q2).2, ⟨0, by omega, rfl⟩⟩
          · have hi' : c < rws σ 7 := by omega
            rw [b6 c 0 hi' (by decide), b6 c 1 hi' (by decide), b6 c 2 hi' (by decide), b6 c 3 hi' (by decide), b6 c 4 hi' (by decide)]
            simp only [upd, if_neg qi]
            exact hP.2.1 c hi'
        · exact hP.2.2.1 c (by omega) hc2
        · exact hP.2.2.2.1
        · obtain ⟨c, k, x1, x2, x3⟩ := hP.2.2.2.2.1 e he
          exact ⟨c, k, by omega, x2, x3⟩
        · by_cases qi : c = rws σ 7
          · exfalso
            subst qi
            have hk' : k < um τ (rws σ 7) := hk
            unfold um at hk'
            rw [h0] at hk'
            exact absurd (show k < 0 from hk') (by omega)
          · exact hP.2.2.2.2.2.1 c k (by omega) hk
        · exact hP.2.2.2.2.2.2
      · exact (FrM.f1 _ _ (by decide)).trans ((FrM.f2 _ _ (by decide)).trans ((FrM.f2 _ _ (by decide)).trans ((FrM.f2 _ _ (by decide)).trans ((FrM.f2 _ _ (by decide)).trans (FrM.f1 _ _ (by decide))))))
    · rw [if_pos ((nI_full (n := 20) (L := 20) rfl h40 (by omega)).mpr q3)]
      simp only [tb_add_full hW 7 (by omega) q3, bnd_s, tb_put_neg 7 (show (-1 : Int32) < 0 by decide)]
      exact AgX.mk 0 _ σ _ _ rfl (Or.inl rfl) rfl rfl (fun _ => rfl) (Jg.thr hW ICla.thr hP (by decide) _)
  · simp only [tb_has0 hW 6 (by omega) q0, isPer_m0 hW e38 q0, bnd_s, if_true, B_M_claim_19, fm_bad1, if_neg i10]
    exact AgX.mk 3 0 σ 0 _ rfl (Or.inr (Or.inl rfl)) rfl rfl (fun z => absurd z (by decide)) (Jg.thr2 hW ICla.thr hP (by decide) _ _)
theorem sumN_up {f g : Nat → Nat} {c : Nat} (hg : ∀ i, i ≠ c → g i = f i) (hc : g c = f c + 1) : ∀ n, c < n → sumN g n = sumN f n + 1 := by
  intro n
  induction n with
  | zero => intro h; exact absurd h (by omega)
  | succ n ih =>
    intro h
    show sumN g n + g n = sumN f n + f n + 1
    by_cases q : c = n
    · subst q
      rw [hc, sumN_congr c (fun i hi => hg i (by omega))]
      omega
    · rw [ih (by omega), hg n (by omega)]
      omega
theorem sumN_lt {f : Nat → Nat} {c b : Nat} (hb : ∀ i, f i ≤ b) (hc : f c < b) : ∀ n, c < n → sumN f n < n * b := by
  intro n
  induction n with
  | zero => intro h; exact absurd h (by omega)
  | succ n ih =>
    intro h
    show sumN f n + f n < (n + 1) * b
    rw [Nat.succ_mul]
    by_cases q : c = n
    · subst q
      have := sumN_le (f := f) (b := b) c (fun i _ => hb i)
      omega
    · have := ih (by omega)
      have := hb n
      omega
theorem pm_use {σ τ : CS} (hW : WC σ) (hP : ICla σ τ) (a0 a1 a2 : Int32) : AgX (f_FC_use a0 a1 a2 σ) (f_M_use a0 a1 a2 τ) (fun c0 => c0 = 0 ∨ c0 = 3 ∨ c0 = 1) (fun c0 => (if c0 = 0 then (0 : Int32) else if c0 = 3 then 1 else 2)) (JCla σ τ) := by
  have h40 : rws σ 7 ≤ 20 := hW.hlim (t := 7) (by omega)
  unfold f_FC_use f_M_use B_FC_use_34
  simp only [hP.1]
  by_cases q0 : ∃ j, j < rws σ 7 ∧ a0 = nI j
  · obtain ⟨j, hj, rfl⟩ := q0
    obtain ⟨p1, p2, p3, p4, p5, p6, p7, p8, p9, u, hu, p10⟩ := hP.2.1 j hj
    have hum : um τ j = u := by unfold um; rw [p5, p10, nI_clamp (by omega)]
    simp only [tb_has1 hW 7 (by omega) hj, fm_idx1 hj (show rws σ 7 < 2147483648 by omega), bnd_s, if_neg i10, B_M_use_25, fm_bad0, if_true, fc_within, fm_in, fc_isDay, fm_isDay]
    by_cases q1 : a1 < 0 ∨ 1 < a1
    · simp only [if_pos q1, if_true, B_FC_use_35, B_M_use_54, fm_bad1, bnd_s, if_neg i10]
      exact AgX.mk 1 0 σ 0 _ rfl (Or.inr (Or.inr rfl)) rfl rfl (fun z => absurd z (by decide)) (Jg.thr2 hW ICla.thr hP (by decide) _ _)
    simp only [if_neg q1, if_neg i10]
    by_cases q2 : a2 < 0 ∨ 100000 < a2
    · simp only [if_pos q2, if_true, B_FC_use_35, B_M_use_54, fm_bad1, bnd_s, if_neg i10]
      exact AgX.mk 1 0 σ 0 _ rfl (Or.inr (Or.inr rfl)) rfl rfl (fun z => absurd z (by decide)) (Jg.thr2 hW ICla.thr hP (by decide) _ _)
    have hR1 := Rg.of q1 (n := 1) rfl (by omega) (by decide)
    have hR2 := Rg.of q2 (n := 100000) rfl (by omega) (by decide)
    simp only [if_neg q2, if_neg i10, B_FC_use_35, B_M_use_54, fm_bad0, bnd_s, if_true, f_Claims_addEvent, tb_gl hW 7 (by omega) j 4 hj (by decide), gix_n (show j < 20 by omega) (show 20 < 2147483648 by omega), rdn (show j < 2147483648 by omega), va_up, reduceIte, Nat.reduceEqDiff, p5, p10]
    by_cases q3 : u < 60
    · rw [if_pos ((lt_lit 60 (by omega) (by omega)).mpr q3), if_neg (fun z => absurd ((eq_lit 60 (by omega) (by omega)).mp z) (by omega))]
      have hub : ∀ i, um τ i ≤ 60 ∨ 20 ≤ i := fun i => by
        by_cases z : i < rws σ 7
        · left
          obtain ⟨-, -, -, -, y5, -, -, -, -, w, hw, y10⟩ := hP.2.1 i z
          unfold um; rw [y5, y10, nI_clamp (by omega)]; exact hw
        · by_cases z2 : i < 20
          · left
            unfold um; rw [hP.2.2.1 i (by omega) z2]; decide
          · right; omega
      have hr8 : rws σ 8 < 1200 := by
        rw [← hP.2.2.2.1]
        have := sumN_lt (f := fun i => if i < 20 then um τ i else 0) (c := j) (b := 60) (fun i => by
          show (if i < 20 then um τ i else 0) ≤ 60
          split
          · rcases hub i with h | h <;> omega
          · omega) (by show (if j < 20 then um τ j else 0) < 60; rw [if_pos (by omega), hum]; exact q3) 20 (by omega)
        rw [sumN_congr (f := um τ) (g := fun i => if i < 20 then um τ i else 0) 20 (fun i hi => by
          show um τ i = if i < 20 then um τ i else 0
          rw [if_pos hi])]
        omega
      obtain ⟨σ1, e1, A1⟩ := tb_add hW 8 (by omega) hr8
      obtain ⟨e2, A2⟩ := tb_putA A1 (by omega) 0 (by decide) (nI j) (ci := 0) rfl
      obtain ⟨e3, A3⟩ := tb_putA A2 (by omega) 1 (by decide) a1 (ci := 1) rfl
      obtain ⟨e4, A4⟩ := tb_putA A3 (by omega) 2 (by decide) a2 (ci := 2) rfl
      simp only [e1, bnd_s, e2, e3, e4]
      obtain ⟨σ2, hσ2⟩ : ∃ s, s = pt (pt (pt σ1 8 (rws σ 8) 0 (nI j)) 8 (rws σ 8) 1 a1) 8 (rws σ 8) 2 a2 := ⟨_, rfl⟩
      rw [← hσ2] at A4 ⊢
      have r7 : rws σ2 7 = rws σ 7 := A4.fr.fr (by decide)
      have c7 : ∀ i c, cel σ2 7 i c = cel σ 7 i c := fun i c => A4.fr.fc (by decide) i c
      have r6 : rws σ2 6 = rws σ 6 := A4.fr.fr (by decide)
      have i60 : (60 : Int32) * nI j + nI u = nI (60 * j + u) := by rw [show (60 : Int32) = nI 60 from rfl, nI_mul, nI_add]
      rw [tb_raise A4.1 7 (by omega) j 4 (by rw [r7]; exact hj) (by decide), bnd_s, bnd_s, c7, p10, nI_1]
      rw [i60]
      simp only [gix_n (show 60 * j + u < 1200 by omega) (show 1200 < 2147483648 by omega), wrn (show 60 * j + u < 2147483648 by omega), wrn (show j < 2147483648 by omega), rdn (show j < 2147483648 by omega), nI_1, va_up, reduceIte, Nat.reduceEqDiff, upd]
      have A5 := A4
      obtain ⟨-, b2, -, -, b5, b6⟩ := A5
      refine AgX.mk 0 _ _ _ _ rfl (Or.inl rfl) rfl rfl (fun _ => by rw [nI_clamp (show j < 2 ^ 31 by omega), if_pos rfl]) ⟨pt_W A4.1 _ _ _ _, ?_, (A4.fr.mono (by decide) (by decide)).trans (FrC.f3 _ _ _ _ (by decide)), ?_⟩
      · have cc7 : ∀ i c, c < 5 → cel (pt σ2 7 j 4 (nI (u + 1))) 7 i c = if i = j ∧ c = 4 then nI (u + 1) else cel σ 7 i c := fun i c hc => by rw [pt_cel _ 7 j 4 _ i c (by decide) hc, c7]
        have cc8 : ∀ i c, cel (pt σ2 7 j 4 (nI (u + 1))) 8 i c = cel σ2 8 i c := fun i c => pt_other _ _ _ _ _ _ _ _ (by omega)
        unfold ICla
        simp only [pt_rws, r6, r7, b2, cc8, va_up, reduceIte, Nat.reduceEqDiff, upd]
        refine ⟨hP.1, fun c hc => ?_, fun c hc1 hc2 => ?_, ?_, fun e he => ?_, fun c k hc hk => ?_, fun e he => ?_⟩
        · rw [cc7 c 0 (by omega), cc7 c 1 (by omega), cc7 c 2 (by omega), cc7 c 3 (by omega), cc7 c 4 (by omega)]
          simp only [and_false, and_true, reduceIte, Nat.reduceEqDiff]
          obtain ⟨x1, x2, x3, x4, x5, x6, x7, x8, x9, x10⟩ := hP.2.1 c hc
          refine ⟨x1, x2, x3, x4, ?_, x6, x7, x8, x9, ?_⟩
          · by_cases z : c = j
            · rw [if_pos z, if_pos z]
            · rw [if_neg z, if_neg z]; exact x5
          · by_cases z : c = j
            · rw [if_pos z]; exact ⟨u + 1, by omega, rfl⟩
            · rw [if_neg z]; exact x10
        · rw [if_neg (by omega)]
          exact hP.2.2.1 c hc1 hc2
        · rw [← hP.2.2.2.1]
          refine sumN_up (c := j) (fun i hi => ?_) ?_ 20 (by omega)
          · unfold um
            simp only [va_up, reduceIte, upd]
            rw [if_neg hi]
          · rw [hum]
            unfold um
            simp only [va_up, reduceIte, upd]
            rw [nI_clamp (by omega)]
        · have huj : ∀ c, (if c = j then nI (u + 1) else τ.2.1 76 c).toNatClampNeg = if c = j then u + 1 else um τ c := fun c => by
            by_cases z : c = j
            · rw [if_pos z, if_pos z, nI_clamp (by omega)]
            · rw [if_neg z, if_neg z]; rfl
          unfold um
          simp only [va_up, reduceIte, Nat.reduceEqDiff, upd, huj]
          by_cases qe : e = rws σ 8
          · subst qe
            refine ⟨j, u, hj, by rw [if_pos rfl]; omega, ?_⟩
            rw [b5 0 (by decide), b5 1 (by decide), b5 2 (by decide), if_pos rfl, if_pos rfl]
            exact ⟨rfl, rfl, rfl⟩
          · obtain ⟨c, k, y1, y2, y3, y4, y5⟩ := hP.2.2.2.2.1 e (by omega)
            refine ⟨c, k, y1, ?_, ?_⟩
            · by_cases z : c = j
              · rw [if_pos z]; rw [z, hum] at y2; omega
              · rw [if_neg z]; exact y2
            · have hne : 60 * c + k ≠ 60 * j + u := by
                intro z
                have hk60 : k < 60 := by
                  rcases hub c with h | h <;> omega
                have : c = j := by omega
                rw [this, hum] at y2
                omega
              rw [b6 e 0 (by omega) (by decide), b6 e 1 (by omega) (by decide), b6 e 2 (by omega) (by decide), if_neg hne, if_neg hne]
              exact ⟨y3, y4, y5⟩
        · have hk' : k < if c = j then u + 1 else um τ c := by
            unfold um at hk ⊢
            simp only [va_up, reduceIte, upd] at hk
            by_cases z : c = j
            · rw [if_pos z, nI_clamp (by omega)] at hk
              rw [if_pos z]; exact hk
            · rw [if_neg z] at hk
              rw [if_neg z]; exact hk
          by_cases z : c = j ∧ k = u
          · refine ⟨rws σ 8, by omega, ?_⟩
            rw [b5 0 (by decide), b5 1 (by decide), b5 2 (by decide), z.1, z.2, if_pos rfl, if_pos rfl]
            exact ⟨rfl, rfl, rfl⟩
          · have hk2 : k < um τ c := by
              by_cases w : c = j
              · rw [if_pos w] at hk'
                rw [w, hum]
                have : k ≠ u := fun y => z ⟨w, y⟩
                omega
              · rw [if_neg w] at hk'; exact hk'
            obtain ⟨e, y1, y2, y3, y4⟩ := hP.2.2.2.2.2.1 c k hc hk2
            have hne : 60 * c + k ≠ 60 * j + u := by
              intro y
              have hk60 : k < 60 := by
                rcases hub c with h | h <;> omega
              have h1 : c = j := by omega
              exact z ⟨h1, by omega⟩
            refine ⟨e, by omega, ?_⟩
            rw [b6 e 0 y1 (by decide), b6 e 1 y1 (by decide), b6 e 2 y1 (by decide), if_neg hne, if_neg hne]
            exact ⟨y2, y3, y4⟩
        · by_cases qe : e = rws σ 8
          · subst qe
            rw [b5 1 (by decide), b5 2 (by decide)]
            exact ⟨hR1, hR2⟩
          · rw [b6 e 1 (by omega) (by decide), b6 e 2 (by omega) (by decide)]
            exact hP.2.2.2.2.2.2 e (by omega)
      · exact (FrM.f1 _ _ (by decide)).trans ((FrM.f2 _ _ (by decide)).trans ((FrM.f2 _ _ (by decide)).trans (FrM.f2 _ _ (by decide))))
    · rw [if_neg (fun z => q3 ((lt_lit 60 (by omega) (by omega)).mp z)), if_pos ((eq_lit 60 (by omega) (by omega)).mpr (by omega))]
      simp only [bnd_s]
      exact AgX.mk 0 _ σ _ _ rfl (Or.inl rfl) rfl rfl (fun _ => rfl) (Jg.thr hW ICla.thr hP (by decide) _)
  · simp only [tb_has0 hW 7 (by omega) q0, fm_idx0 (show rws σ 7 < 2147483648 by omega) q0, bnd_s, if_true, B_M_use_25, fm_bad1, if_neg i10]
    exact AgX.mk 3 0 σ 0 _ rfl (Or.inr (Or.inl rfl)) rfl rfl (fun z => absurd z (by decide)) (Jg.thr2 hW ICla.thr hP (by decide) _ _)
