/-! ===== layer 2: wardens, lodges, deeds ===== -/
def Jg (I A I' A' : List Nat) (P : CS → CS → Prop) (σ τ σ1 τ1 : CS) : Prop := WC σ1 ∧ P σ1 τ1 ∧ FrC I A σ σ1 ∧ FrM I' A' τ τ1
theorem Jg.thr {I A I' A' : List Nat} {P : CS → CS → Prop} {σ τ : CS} (hW : WC σ) (hT : ∀ τ c, P σ τ → P σ (sF τ 0 c)) (hP : P σ τ) (h0 : 0 ∈ I') (c : Int32) : Jg I A I' A' P σ τ σ (sF τ 0 c) := ⟨hW, hT τ c hP, FrC.refl _ _ _, FrM.f1 _ _ h0⟩
theorem Jg.thr2 {I A I' A' : List Nat} {P : CS → CS → Prop} {σ τ : CS} (hW : WC σ) (hT : ∀ τ c, P σ τ → P σ (sF τ 0 c)) (hP : P σ τ) (h0 : 0 ∈ I') (c d : Int32) : Jg I A I' A' P σ τ σ (sF (sF τ 0 c) 0 d) := ⟨hW, hT _ d (hT τ c hP), FrC.refl _ _ _, (FrM.f1 _ _ h0).trans (FrM.f1 _ _ h0)⟩
def Ix (x : Int32) (n : Nat) : Prop := ∃ h, h < n ∧ x = nI h
theorem Ix.mono {x : Int32} {n m : Nat} (h : Ix x n) (hm : n ≤ m) : Ix x m := by
  obtain ⟨a, h1, h2⟩ := h
  exact ⟨a, by omega, h2⟩
/-- a lodge: none, or a place and a reach -/
def Lod (σ τ : CS) (i : Nat) : Prop := (τ.2.1 88 i = 0 ∧ cel σ 9 i 5 = -1) ∨ (τ.2.1 88 i = 1 ∧ Rg (cel σ 9 i 5) 4000 ∧ τ.2.1 89 i = cel σ 9 i 3 ∧ τ.2.1 90 i = cel σ 9 i 4 ∧ τ.2.1 91 i = cel σ 9 i 5 ∧ Rg (cel σ 9 i 3) 999 ∧ Rg (cel σ 9 i 4) 999)
def IWar (σ τ : CS) : Prop := τ.1 44 = nI (rws σ 9) ∧ (∀ i, i < rws σ 9 → τ.2.1 45 i = cel σ 9 i 0 ∧ τ.2.1 46 i = cel σ 9 i 1 ∧ τ.2.1 47 i = cel σ 9 i 2 ∧ Ix (cel σ 9 i 0) (rws σ 6) ∧ Rg (cel σ 9 i 1) 9 ∧ Rg (cel σ 9 i 2) 50 ∧ Lod σ τ i) ∧ (∀ i, rws σ 9 ≤ i → i < 6 → τ.2.1 88 i = 0)
theorem IWar.fr {σ τ σ' τ' : CS} (h : IWar σ τ) (e0 : rws σ 6 ≤ rws σ' 6) (e1 : σ'.1 29 = σ.1 29) (e2 : σ'.2.1 9 = σ.2.1 9) (e3 : τ'.1 44 = τ.1 44) (e4 : τ'.2.1 45 = τ.2.1 45) (e5 : τ'.2.1 46 = τ.2.1 46) (e6 : τ'.2.1 47 = τ.2.1 47) (e7 : τ'.2.1 88 = τ.2.1 88) (e8 : τ'.2.1 89 = τ.2.1 89) (e9 : τ'.2.1 90 = τ.2.1 90) (e10 : τ'.2.1 91 = τ.2.1 91) : IWar σ' τ' := by
  have r : rws σ' 9 = rws σ 9 := by unfold rws; rw [show 3 * 9 + 2 = 29 from rfl, e1]
  have c : ∀ i c, cel σ' 9 i c = cel σ 9 i c := fun i c => by unfold cel; rw [e2]
  unfold IWar Lod
  simp only [r, c, e3, e4, e5, e6, e7, e8, e9, e10]
  refine ⟨h.1, fun i hi => ?_, h.2.2⟩
  obtain ⟨a1, a2, a3, a4, a5⟩ := h.2.1 i hi
  exact ⟨a1, a2, a3, a4.mono e0, a5⟩
theorem IWar.thr {σ : CS} (τ : CS) (c : Int32) (h : IWar σ τ) : IWar σ (sF τ 0 c) := h.fr (Nat.le_refl _) rfl rfl rfl rfl rfl rfl rfl rfl rfl rfl
abbrev JWar := Jg [29, 68] [9] [0, 44] [45, 46, 47, 88, 89, 90, 91] IWar
theorem pm_warden {σ τ : CS} (hW : WC σ) (hP6 : IPeo σ τ) (hP : IWar σ τ) (a0 a1 a2 : Int32) : AgX (f_FC_warden a0 a1 a2 σ) (f_M_warden a0 a1 a2 τ) (fun c0 => c0 = 0 ∨ c0 = 3 ∨ c0 = 1) (fun c0 => (if c0 = 0 then (0 : Int32) else if c0 = 3 then 1 else 2)) (JWar σ τ) := by
  have h40 : rws σ 9 ≤ 6 := hW.hlim (t := 9) (by omega)
  have e38 : (sF τ 0 0).1 38 = nI (rws σ 6) := hP6.1
  unfold f_FC_warden f_M_warden B_FC_warden_38
  by_cases q0 : ∃ j, j < rws σ 6 ∧ a0 = nI j
  · obtain ⟨j, hj, rfl⟩ := q0
    simp only [tb_has1 hW 6 (by omega) hj, isPer_m hW e38 hj, bnd_s, if_neg i10, B_M_warden_19, fm_bad0, if_true, fc_within, fm_in]
    by_cases q1 : a1 < 1 ∨ 9 < a1
    · simp only [if_pos q1, if_true, B_FC_warden_39, B_M_warden_52, fm_bad1, bnd_s, if_neg i10]
      exact AgX.mk 1 0 σ 0 _ rfl (Or.inr (Or.inr rfl)) rfl rfl (fun z => absurd z (by decide)) (Jg.thr2 hW IWar.thr hP (by decide) _ _)
    simp only [if_neg q1, if_neg i10]
    by_cases q2 : a2 < 0 ∨ 50 < a2
    · simp only [if_pos q2, if_true, B_FC_warden_39, B_M_warden_52, fm_bad1, bnd_s, if_neg i10]
      exact AgX.mk 1 0 σ 0 _ rfl (Or.inr (Or.inr rfl)) rfl rfl (fun z => absurd z (by decide)) (Jg.thr2 hW IWar.thr hP (by decide) _ _)
    simp only [if_neg q2, if_neg i10, B_FC_warden_39, B_M_warden_52, fm_bad0, bnd_s, if_true, va_up, reduceIte, Nat.reduceEqDiff, hP.1, f_Courts_addWarden]
    by_cases q3 : rws σ 9 < 6
    · rw [if_neg (fun z => (nI_full (n := 6) (L := 6) rfl h40 (by omega)).mp z q3)]
      simp only [gix_n q3 (show 6 < 2147483648 by omega), wrn (show rws σ 9 < 2147483648 by omega)]
      obtain ⟨σ1, e1, A1⟩ := tb_add hW 9 (by omega) q3
      obtain ⟨e2, A2⟩ := tb_putA A1 (by omega) 0 (by decide) (nI j) (ci := 0) rfl
      obtain ⟨e3, A3⟩ := tb_putA A2 (by omega) 1 (by decide) a1 (ci := 1) rfl
      obtain ⟨e4, A4⟩ := tb_putA A3 (by omega) 2 (by decide) a2 (ci := 2) rfl
      simp only [e1, bnd_s, e2, e3, e4]
      refine AgX.mk 0 (nI (rws σ 9)) _ _ _ rfl (Or.inl rfl) rfl rfl (fun _ => by rw [nI_1, nI_p1]) ⟨A4.1, ?_, A4.fr.mono (by decide) (by decide), ?_⟩
      · have r6 := A4.fr.fr (t := 6) (by decide)
        obtain ⟨-, b2, -, -, b5, b6⟩ := A4
        refine ⟨?_, fun i hi => ?_, fun i hi1 hi2 => ?_⟩
        · rw [b2]
          simp only [va_up, reduceIte, nI_1]
        · rw [b2] at hi
          unfold Lod
          simp only [va_up, reduceIte, Nat.reduceEqDiff, r6]
          by_cases qi : i = rws σ 9
          · subst qi
            rw [b5 0 (by decide), b5 1 (by decide), b5 2 (by decide), b5 3 (by decide), b5 4 (by decide), b5 5 (by decide)]
            simp only [upd, reduceIte, Nat.reduceEqDiff, true_and, true_or, and_true]
            exact ⟨⟨j, hj, rfl⟩, Rg.of q1 (n := 9) rfl (by omega) (by decide), Rg.of q2 (n := 50) rfl (by omega) (by decide), Or.inl (hP.2.2 _ (Nat.le_refl _) q3)⟩
          · have hi' : i < rws σ 9 := by omega
            rw [b6 i 0 hi' (by decide), b6 i 1 hi' (by decide), b6 i 2 hi' (by decide), b6 i 3 hi' (by decide), b6 i 4 hi' (by decide), b6 i 5 hi' (by decide)]
            simp only [upd, if_neg qi]
            exact hP.2.1 i hi'
        · rw [b2] at hi1
          exact hP.2.2 i (by omega) hi2
      · exact (FrM.f1 _ _ (by decide)).trans ((FrM.f2 _ _ (by decide)).trans ((FrM.f2 _ _ (by decide)).trans ((FrM.f2 _ _ (by decide)).trans (FrM.f1 _ _ (by decide)))))
    · rw [if_pos ((nI_full (n := 6) (L := 6) rfl h40 (by omega)).mpr q3)]
      simp only [tb_add_full hW 9 (by omega) q3, bnd_s, tb_put_neg 9 (show (-1 : Int32) < 0 by decide)]
      exact AgX.mk 0 _ σ _ _ rfl (Or.inl rfl) rfl rfl (fun _ => rfl) (Jg.thr hW IWar.thr hP (by decide) _)
  · simp only [tb_has0 hW 6 (by omega) q0, isPer_m0 hW e38 q0, bnd_s, if_true, B_M_warden_19, fm_bad1, if_neg i10]
    exact AgX.mk 3 0 σ 0 _ rfl (Or.inr (Or.inl rfl)) rfl rfl (fun z => absurd z (by decide)) (Jg.thr2 hW IWar.thr hP (by decide) _ _)
theorem sF_W {σ : CS} (hW : WC σ) {k : Nat} (hk : 48 ≤ k) (v : Int32) : WC (sF σ k v) := by
  intro t ht
  obtain ⟨a1, a2, a3, a4, a5⟩ := hW t ht
  have e : ∀ j, j < 48 → (sF σ k v).1 j = σ.1 j := fun j hj => va_up_ne σ.1 v (by omega)
  have er : rws (sF σ k v) t = rws σ t := by unfold rws; rw [e _ (by omega)]
  unfold Tok
  rw [er, e _ (by omega), e _ (by omega), e _ (by omega)]
  exact ⟨a1, a2, a3, a4, a5⟩
theorem sF_rw (σ : CS) {k : Nat} (hk : 48 ≤ k) (v : Int32) {t : Nat} (ht : t < 15) : rws (sF σ k v) t = rws σ t := by
  unfold rws
  rw [show (sF σ k v).1 (3 * t + 2) = σ.1 (3 * t + 2) from va_up_ne σ.1 v (by omega)]
theorem pm_lodge {σ τ : CS} (hW : WC σ) (hP : IWar σ τ) (a0 a1 a2 a3 : Int32) : AgX (f_FC_lodge a0 a1 a2 a3 σ) (f_M_lodge a0 a1 a2 a3 τ) (fun c0 => c0 = 0 ∨ c0 = 3 ∨ c0 = 1) (fun c0 => (if c0 = 0 then (0 : Int32) else if c0 = 3 then 1 else 2)) (fun σ1 τ1 => JWar σ τ σ1 τ1 ∧ (σ1.1 68 = 1 ∨ (σ1 = σ ∧ FrM [0] [] τ τ1))) := by
  have h40 : rws σ 9 ≤ 6 := hW.hlim (t := 9) (by omega)
  have e44 : (sF τ 0 0).1 44 = nI (rws σ 9) := hP.1
  have thr2 : ∀ c, JWar σ τ σ (sF (sF τ 0 0) 0 c) ∧ ((σ.1 68 = 1) ∨ (σ = σ ∧ FrM [0] [] τ (sF (sF τ 0 0) 0 c))) := fun c => ⟨Jg.thr2 hW IWar.thr hP (by decide) _ _, Or.inr ⟨rfl, (FrM.f1 _ _ (by decide)).trans (FrM.f1 _ _ (by decide))⟩⟩
  unfold f_FC_lodge f_M_lodge B_FC_lodge_38
  simp only [hP.1]
  by_cases q0 : ∃ j, j < rws σ 9 ∧ a0 = nI j
  · obtain ⟨j, hj, rfl⟩ := q0
    simp only [tb_has1 hW 9 (by omega) hj, fm_idx1 hj (show rws σ 9 < 2147483648 by omega), bnd_s, if_neg i10, B_M_lodge_25, fm_bad0, if_true, fc_within, fm_in, fc_isPlace, fm_isPlace]
    by_cases q1 : badP a1 a2
    · simp only [if_pos q1, if_true, B_FC_lodge_39, B_M_lodge_58, fm_bad1, bnd_s, if_neg i10]
      exact AgX.mk 1 0 σ 0 _ rfl (Or.inr (Or.inr rfl)) rfl rfl (fun z => absurd z (by decide)) (thr2 _)
    simp only [if_neg q1, if_neg i10]
    by_cases q2 : a3 < 0 ∨ 4000 < a3
    · simp only [if_pos q2, if_true, B_FC_lodge_39, B_M_lodge_58, fm_bad1, bnd_s, if_neg i10]
      exact AgX.mk 1 0 σ 0 _ rfl (Or.inr (Or.inr rfl)) rfl rfl (fun z => absurd z (by decide)) (thr2 _)
    have W1 := pt_W hW 9 j 3 a1
    have W2 := pt_W W1 9 j 4 a2
    have W3 := pt_W W2 9 j 5 a3
    simp only [if_neg q2, if_neg i10, B_FC_lodge_39, B_M_lodge_58, fm_bad0, bnd_s, if_true, f_Patrols_setLodge, gix_n (show j < 6 by omega) (show 6 < 2147483648 by omega), wrn (show j < 2147483648 by omega), tb_pl hW 9 (by omega) j 3 hj (by decide), tb_pl W1 9 (by omega) j 4 hj (by decide), tb_pl W2 9 (by omega) j 5 hj (by decide)]
    refine AgX.mk 0 _ _ _ _ rfl (Or.inl rfl) rfl rfl (fun _ => rfl) ⟨⟨sF_W W3 (by omega) _, ⟨?_, fun i hi => ?_, fun i hi1 hi2 => ?_⟩, ?_, ?_⟩, Or.inl ?_⟩
    · rw [sF_rw _ (by omega) _ (by omega)]
      exact hP.1
    · rw [sF_rw _ (by omega) _ (by omega)] at hi
      have hi' : i < rws σ 9 := hi
      obtain ⟨b1, b2, b3, b4, b5, b6, b7⟩ := hP.2.1 i hi'
      rw [sF_rw _ (by omega) _ (by omega)]
      have cc : ∀ c, c < 6 → cel (sF (pt (pt (pt σ 9 j 3 a1) 9 j 4 a2) 9 j 5 a3) 68 1) 9 i c = if i = j ∧ c = 5 then a3 else if i = j ∧ c = 4 then a2 else if i = j ∧ c = 3 then a1 else cel σ 9 i c := by
        intro c hc
        show cel (pt (pt (pt σ 9 j 3 a1) 9 j 4 a2) 9 j 5 a3) 9 i c = _
        rw [pt_cel _ 9 j 5 _ i c (by decide) hc, pt_cel _ 9 j 4 _ i c (by decide) hc, pt_cel _ 9 j 3 _ i c (by decide) hc]
      unfold Lod
      simp only [va_up, reduceIte, Nat.reduceEqDiff, cc 0 (by omega), cc 1 (by omega), cc 2 (by omega), cc 3 (by omega), cc 4 (by omega), cc 5 (by omega), and_false, and_true, upd, vp_nar]
      refine ⟨b1, b2, b3, b4, b5, b6, ?_⟩
      by_cases z : i = j
      · simp only [if_pos z]
        right
        refine ⟨by decide, Rg.of q2 (n := 4000) rfl (by omega) (by decide), trivial, trivial, trivial, Rg.of (fun y => q1 (Or.inl y)) (n := 999) rfl (by omega) (by decide), Rg.of (fun y => q1 (Or.inr y)) (n := 999) rfl (by omega) (by decide)⟩
      · simp only [if_neg z]
        exact b7
    · rw [sF_rw _ (by omega) _ (by omega)] at hi1
      have hi' : rws σ 9 ≤ i := hi1
      simp only [va_up, reduceIte, Nat.reduceEqDiff, upd]
      rw [if_neg (by omega)]
      exact hP.2.2 i hi' hi2
    · exact (FrC.f3 _ _ _ _ (by decide)).trans ((FrC.f3 _ _ _ _ (by decide)).trans ((FrC.f3 _ _ _ _ (by decide)).trans (FrC.f1 _ _ (by decide))))
    · exact (FrM.f1 _ _ (by decide)).trans ((FrM.f2 _ _ (by decide)).trans ((FrM.f2 _ _ (by decide)).trans ((FrM.f2 _ _ (by decide)).trans (FrM.f2 _ _ (by decide)))))
    · simp only [va_up, reduceIte]
  · simp only [tb_has0 hW 9 (by omega) q0, fm_idx0 (show rws σ 9 < 2147483648 by omega) q0, bnd_s, if_true, B_M_lodge_25, fm_bad1, if_neg i10]
    exact AgX.mk 3 0 σ 0 _ rfl (Or.inr (Or.inl rfl)) rfl rfl (fun z => absurd z (by decide)) (thr2 _)

def IDee (σ τ : CS) : Prop := τ.1 48 = nI (rws σ 10) ∧ ∀ i, i < rws σ 10 → τ.2.1 49 i = cel σ 10 i 0 ∧ τ.2.1 50 i = cel σ 10 i 1 ∧ τ.2.1 51 i = cel σ 10 i 2 ∧ τ.2.1 52 i = cel σ 10 i 3 ∧ τ.2.1 53 i = cel σ 10 i 4 ∧ τ.2.1 54 i = cel σ 10 i 5 ∧
  Ix (cel σ 10 i 0) (rws σ 6) ∧ Rg (cel σ 10 i 1) 5 ∧ Rg (cel σ 10 i 2) 999 ∧ Rg (cel σ 10 i 3) 999 ∧ Rg (cel σ 10 i 4) 100000 ∧ Rg (cel σ 10 i 5) 1000
theorem IDee.fr {σ τ σ' τ' : CS} (h : IDee σ τ) (e0 : rws σ 6 ≤ rws σ' 6) (e1 : σ'.1 32 = σ.1 32) (e2 : ∀ i c, i < rws σ 10 → c < 6 → cel σ' 10 i c = cel σ 10 i c) (e3 : τ'.1 48 = τ.1 48) (e4 : τ'.2.1 49 = τ.2.1 49) (e5 : τ'.2.1 50 = τ.2.1 50) (e6 : τ'.2.1 51 = τ.2.1 51) (e7 : τ'.2.1 52 = τ.2.1 52) (e8 : τ'.2.1 53 = τ.2.1 53) (e9 : τ'.2.1 54 = τ.2.1 54) : IDee σ' τ' := by
  have r : rws σ' 10 = rws σ 10 := by unfold rws; rw [show 3 * 10 + 2 = 32 from rfl, e1]
  unfold IDee
  simp only [r, e3, e4, e5, e6, e7, e8, e9]
  refine ⟨h.1, fun i hi => ?_⟩
  obtain ⟨a1, a2, a3, a4, a5, a6, a7, a8⟩ := h.2 i hi
  rw [e2 i 0 hi (by omega), e2 i 1 hi (by omega), e2 i 2 hi (by omega), e2 i 3 hi (by omega), e2 i 4 hi (by omega), e2 i 5 hi (by omega)]
  exact ⟨a1, a2, a3, a4, a5, a6, a7.mono e0, a8⟩
theorem IDee.thr {σ : CS} (τ : CS) (c : Int32) (h : IDee σ τ) : IDee σ (sF τ 0 c) := h.fr (Nat.le_refl _) rfl (fun _ _ _ _ => rfl) rfl rfl rfl rfl rfl rfl rfl
def Gr10 (σ σ1 : CS) : Prop := rws σ 10 ≤ rws σ1 10 ∧ (∀ i, i < rws σ 10 → cel σ1 10 i 6 = cel σ 10 i 6) ∧ (∀ i, rws σ 10 ≤ i → i < rws σ1 10 → cel σ1 10 i 6 = -1)
theorem Gr10.refl (σ : CS) : Gr10 σ σ := ⟨Nat.le_refl _, fun _ _ => rfl, fun _ h1 h2 => absurd h1 (by omega)⟩
abbrev JDee (σ τ σ1 τ1 : CS) : Prop := Jg [32] [10] [0, 48] [49, 50, 51, 52, 53, 54] IDee σ τ σ1 τ1 ∧ Gr10 σ σ1
theorem pm_deed {σ τ : CS} (hW : WC σ) (hP6 : IPeo σ τ) (hP : IDee σ τ) (hT : τ.1 1 = σ.1 62) (hT2 : Rg (σ.1 62) 100000) (a0 a1 a2 a3 a4 a5 : Int32) : AgX (f_FC_deed a0 a1 a2 a3 a4 a5 σ) (f_M_deed a0 a1 a2 a3 a4 a5 τ) (fun c0 => c0 = 0 ∨ c0 = 3 ∨ c0 = 1) (fun c0 => (if c0 = 0 then (0 : Int32) else if c0 = 3 then 1 else 2)) (JDee σ τ) := by
  have h40 : rws σ 10 ≤ 60 := hW.hlim (t := 10) (by omega)
  have e38 : (sF τ 0 0).1 38 = nI (rws σ 6) := hP6.1
  have thr2 : ∀ c, JDee σ τ σ (sF (sF τ 0 0) 0 c) := fun c => ⟨Jg.thr2 hW IDee.thr hP (by decide) _ _, Gr10.refl σ⟩
  -- what the reference does first: one condition
  have eM : f_M_deed a0 a1 a2 a3 a4 a5 τ = B_M_deed_53 a0 a1 a2 a3 a4 a5 (if (a1 < 0 ∨ 5 < a1) ∨ badP a2 a3 ∨ (a4 < 0 ∨ σ.1 62 < a4) ∨ (a5 < 1 ∨ 1000 < a5) then 1 else 0) (sF τ 0 0) := by
    unfold f_M_deed
    simp only [fm_in, fm_isPlace, bnd_s, va_up, reduceIte, Nat.reduceEqDiff, hT]
    by_cases q1 : a1 < 0 ∨ 5 < a1
    · rw [if_pos q1, if_pos rfl, if_pos (Or.inl q1)]
    rw [if_neg q1, if_neg i10]
    by_cases q2 : badP a2 a3
    · rw [if_pos q2, if_pos rfl, if_pos (Or.inr (Or.inl q2))]
    rw [if_neg q2, if_neg i10]
    by_cases q3 : a4 < 0 ∨ σ.1 62 < a4
    · rw [if_pos q3, if_pos rfl, if_pos (Or.inr (Or.inr (Or.inl q3)))]
    rw [if_neg q3, if_neg i10]
    by_cases q4 : a5 < 1 ∨ 1000 < a5
    · rw [if_pos q4, if_pos rfl, if_pos (Or.inr (Or.inr (Or.inr q4)))]
    rw [if_neg q4, if_neg i10, if_neg (by rintro (z | z | z | z) <;> contradiction)]
  rw [eM]
  unfold f_FC_deed B_FC_deed_62
  by_cases q0 : ∃ j, j < rws σ 6 ∧ a0 = nI j
  · obtain ⟨j, hj, rfl⟩ := q0
    by_cases qq : (a1 < 0 ∨ 5 < a1) ∨ badP a2 a3 ∨ (a4 < 0 ∨ σ.1 62 < a4) ∨ (a5 < 1 ∨ 1000 < a5)
    · have eC : (bnd (f_Table_has 6 (nI j) σ) fun r8 σ8 => if r8 = 0 then some ((3, 0), σ8) else (bnd (f_FC_isAct a1 σ8) (fun r15 σ15 => if r15 = 0 then B_FC_deed_63 (nI j) a1 a2 a3 a4 a5 0 σ15 else bnd (f_FC_isPlace a2 a3 σ15) (fun r24 σ24 => if r24 = 0 then B_FC_deed_63 (nI j) a1 a2 a3 a4 a5 0 σ24 else bnd (f_FC_within a4 0 (σ24.1 62) σ24) (fun r40 σ40 => if r40 = 0 then B_FC_deed_63 (nI j) a1 a2 a3 a4 a5 0 σ40 else bnd (f_FC_within a5 1 1000 σ40) (fun r52 σ52 => if r52 = 0 then B_FC_deed_63 (nI j) a1 a2 a3 a4 a5 0 σ52 else B_FC_deed_63 (nI j) a1 a2 a3 a4 a5 1 σ52)))))) = some ((1, 0), σ) := by
        simp only [tb_has1 hW 6 (by omega) hj, bnd_s, if_neg i10, fc_isAct, fc_isPlace, fc_within]
        by_cases q1 : a1 < 0 ∨ 5 < a1
        · rw [if_pos q1, if_pos rfl, B_FC_deed_63, if_pos rfl]
        rw [if_neg q1, if_neg i10]
        by_cases q2 : badP a2 a3
        · rw [if_pos q2, if_pos rfl, B_FC_deed_63, if_pos rfl]
        rw [if_neg q2, if_neg i10]
        by_cases q3 : a4 < 0 ∨ σ.1 62 < a4
        · rw [if_pos q3, if_pos rfl, B_FC_deed_63, if_pos rfl]
        rw [if_neg q3, if_neg i10]
        by_cases q4 : a5 < 1 ∨ 1000 < a5
        · rw [if_pos q4, if_pos rfl, B_FC_deed_63, if_pos rfl]
        exfalso
        rcases qq with z | z | z | z <;> contradiction
      rw [eC]
      simp only [if_pos qq, B_M_deed_53, isPer_m hW e38 hj, bnd_s, if_neg i10, B_M_deed_69, fm_bad0, fm_bad1, if_true]
      exact AgX.mk 1 0 σ 0 _ rfl (Or.inr (Or.inr rfl)) rfl rfl (fun z => absurd z (by decide)) (thr2 _)
    · have q1 : ¬ (a1 < 0 ∨ 5 < a1) := fun z => qq (Or.inl z)
      have q2 : ¬ badP a2 a3 := fun z => qq (Or.inr (Or.inl z))
      have q3 : ¬ (a4 < 0 ∨ σ.1 62 < a4) := fun z => qq (Or.inr (Or.inr (Or.inl z)))
      have q4 : ¬ (a5 < 1 ∨ 1000 < a5) := fun z => qq (Or.inr (Or.inr (Or.inr z)))
      simp only [tb_has1 hW 6 (by omega) hj, bnd_s, if_neg i10, fc_isAct, fc_isPlace, fc_within, if_neg q1, if_neg q2, if_neg q3, if_neg q4, B_FC_deed_63, f_Courts_addDeed, if_neg qq, B_M_deed_53, isPer_m hW e38 hj, B_M_deed_69, fm_bad0, if_true, va_up, reduceIte, Nat.reduceEqDiff, hP.1]
      by_cases q5 : rws σ 10 < 60
      · rw [if_neg (fun z => (nI_full (n := 60) (L := 60) rfl h40 (by omega)).mp z q5)]
        simp only [gix_n q5 (show 60 < 2147483648 by omega), wrn (show rws σ 10 < 2147483648 by omega)]
        obtain ⟨σ1, e1, A1⟩ := tb_add hW 10 (by omega) q5
        obtain ⟨e2, A2⟩ := tb_putA A1 (by omega) 0 (by decide) (nI j) (ci := 0) rfl
        obtain ⟨e3, A3⟩ := tb_putA A2 (by omega) 1 (by decide) a1 (ci := 1) rfl
        obtain ⟨e4, A4⟩ := tb_putA A3 (by omega) 2 (by decide) a2 (ci := 2) rfl
        obtain ⟨e5, A5⟩ := tb_putA A4 (by omega) 3 (by decide) a3 (ci := 3) rfl
        obtain ⟨e6, A6⟩ := tb_putA A5 (by omega) 4 (by decide) a4 (ci := 4) rfl
        obtain ⟨e7, A7⟩ := tb_putA A6 (by omega) 5 (by decide) a5 (ci := 5) rfl
        simp only [e1, bnd_s, e2, e3, e4, e5, e6, e7]
        refine AgX.mk 0 (nI (rws σ 10)) _ _ _ rfl (Or.inl rfl) rfl rfl (fun _ => by rw [nI_1, nI_p1]) ⟨⟨A7.1, ?_, A7.fr, ?_⟩, ?_⟩
        · have r6 := A7.fr.fr (t := 6) (by decide)
          obtain ⟨-, b2, -, -, b5, b6⟩ := A7
          refine ⟨?_, fun i hi => ?_⟩
          · rw [b2]
            simp only [va_up, reduceIte, nI_1]
          · rw [b2] at hi
            simp only [va_up, reduceIte, Nat.reduceEqDiff, r6]
            by_cases qi : i = rws σ 10
            · subst qi
              rw [b5 0 (by decide), b5 1 (by decide), b5 2 (by decide), b5 3 (by decide), b5 4 (by decide), b5 5 (by decide)]
              simp only [upd, reduceIte, Nat.reduceEqDiff, true_and, true_or, and_true]
              obtain ⟨d, hd, ed⟩ := hT2
              rw [ed] at q3
              exact ⟨⟨j, hj, rfl⟩, Rg.of q1 (n := 5) rfl (by omega) (by decide), Rg.of (fun y => q2 (Or.inl y)) (n := 999) rfl (by omega) (by decide), Rg.of (fun y => q2 (Or.inr y)) (n := 999) rfl (by omega) (by decide), (Rg.of q3 (n := d) rfl (by omega) (by decide)).mono hd, Rg.of q4 (n := 1000) rfl (by omega) (by decide)⟩
            · have hi' : i < rws σ 10 := by omega
              rw [b6 i 0 hi' (by decide), b6 i 1 hi' (by decide), b6 i 2 hi' (by decide), b6 i 3 hi' (by decide), b6 i 4 hi' (by decide), b6 i 5 hi' (by decide)]
              simp only [upd, if_neg qi]
              exact hP.2 i hi'
        · exact (FrM.f1 _ _ (by decide)).trans ((FrM.f2 _ _ (by decide)).trans ((FrM.f2 _ _ (by decide)).trans ((FrM.f2 _ _ (by decide)).trans ((FrM.f2 _ _ (by decide)).trans ((FrM.f2 _ _ (by decide)).trans ((FrM.f2 _ _ (by decide)).trans (FrM.f1 _ _ (by decide))))))))
        · obtain ⟨-, b2, -, -, b5, b6⟩ := A7
          refine ⟨by rw [b2]; omega, fun i hi => b6 i 6 hi (by decide), fun i h1 h2 => ?_⟩
          rw [b2] at h2
          have : i = rws σ 10 := by omega
          subst this
          rw [b5 6 (by decide)]
          rfl
      · rw [if_pos ((nI_full (n := 60) (L := 60) rfl h40 (by omega)).mpr q5)]
        simp only [tb_add_full hW 10 (by omega) q5, bnd_s, tb_put_neg 10 (show (-1 : Int32) < 0 by decide)]
        exact AgX.mk 0 _ σ _ _ rfl (Or.inl rfl) rfl rfl (fun _ => rfl) ⟨Jg.thr hW IDee.thr hP (by decide) _, Gr10.refl σ⟩
  · simp only [tb_has0 hW 6 (by omega) q0, bnd_s, if_true, B_M_deed_53, isPer_m0 hW e38 q0, B_M_deed_69, fm_bad1, if_neg i10]
    exact AgX.mk 3 0 σ 0 _ rfl (Or.inr (Or.inl rfl)) rfl rfl (fun z => absurd z (by decide)) (thr2 _)
