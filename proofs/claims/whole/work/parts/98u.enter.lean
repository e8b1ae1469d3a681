/-! ===== layer 2: rolls; joined, enter ===== -/
theorem in_or {x : Int32} {n : Nat} (hn : n < 2147483648) (h : ¬ ∃ k, k < n ∧ x = nI k) : x < 0 ∨ nI n ≤ x := by
  by_cases q : x < 0
  · exact Or.inl q
  · right
    by_cases z : nI n ≤ x
    · exact z
    · obtain ⟨j, h1, h2⟩ := nI_rng (x := x) (lo := 0) (hi := nI n) rfl hn (by decide) q (fun y => z (Int32.le_of_lt y))
      exfalso
      by_cases y : j = n
      · exact z (by rw [h2, y]; exact Int32.le_refl _)
      · exact h ⟨j, by omega, h2⟩
theorem entryC {σ τ : CS} (hW : WC σ) (hR : IRol σ τ) (x : Int32) : ∃ v σ1, f_Rolls_entryAt x σ = some (v, σ1) ∧ WC σ1 ∧ FrC [64, 65, 66] [23, 24, 25, 26] σ σ1 ∧ JS σ1 ∧ σ1.1 66 = 0 ∧ ((nL σ ≤ 8 ∧ ∃ k, k < nL σ ∧ x = nI k ∧ v = nI (el σ (gch (wR σ) (nL σ) (LSf (wR σ) (nL σ)) 0 k))) ∨ ((8 < nL σ ∨ ¬ ∃ k, k < nL σ ∧ x = nI k) ∧ v = -1)) := by
  obtain ⟨σ1, g1, g2, g3, g4, g5⟩ := rjoinC hW hR
  have s := SR.of g3 (by decide) (by decide)
  unfold f_Rolls_entryAt
  rw [g1, bnd_s]
  rcases id g4 with ⟨x1, x2⟩ | ⟨x1, x2, x3, -, x5⟩
  · rw [s.enL] at x1
    rw [x2, if_neg i10]
    exact ⟨-1, σ1, rfl, g2, g3, g4, g5, Or.inr ⟨Or.inl x1, rfl⟩⟩
  rw [s.enL] at x1 x3
  rw [s.enL, s.ewR, s.eel] at x5
  rw [x2, if_pos rfl, x3]
  by_cases q : ∃ k, k < nL σ ∧ x = nI k
  · obtain ⟨k, k1, rfl⟩ := q
    rw [if_neg (nI_pos (by omega)), if_neg (nI_ge k1 (by omega)), if_neg (fun z => absurd ((lit_le 8 (by omega) (by omega)).1 z) (by omega)), gix_n (by omega) (by omega), rdn (by omega), x5 k k1]
    exact ⟨_, σ1, rfl, g2, g3, g4, g5, Or.inl ⟨x1, k, k1, rfl, rfl⟩⟩
  · rcases in_or (by omega) q with z | z
    · rw [if_pos z]
      exact ⟨-1, σ1, rfl, g2, g3, g4, g5, Or.inr ⟨Or.inr q, rfl⟩⟩
    · rw [if_pos z, ite_self]
      exact ⟨-1, σ1, rfl, g2, g3, g4, g5, Or.inr ⟨Or.inr q, rfl⟩⟩
theorem sum_none {σ : CS} (hW : WC σ) (b a : Int32) : ∀ (d e m : Nat), e + d = rws σ 12 → d < m → L_Rolls_sumAt_14 (-1) m b a (nI e) σ = some (b, σ) := by
  have h32 : rws σ 12 ≤ 32 := hW.hlim (t := 12) (by omega)
  intro d
  induction d with
  | zero =>
    intro e m h1 h2
    obtain ⟨m, rfl⟩ : ∃ n, m = n + 1 := ⟨m - 1, by omega⟩
    rw [L_Rolls_sumAt_14, tb_size hW 12 (by omega), bnd_s, if_pos (nI_le (by omega) (by omega))]
  | succ d ih =>
    intro e m h1 h2
    obtain ⟨m, rfl⟩ : ∃ n, m = n + 1 := ⟨m - 1, by omega⟩
    rw [L_Rolls_sumAt_14, tb_size hW 12 (by omega), bnd_s, if_neg (nI_ge (by omega) (by omega)), if_pos rfl, nI_1]
    exact ih (e + 1) m (by omega) (by omega)
theorem pm_joined {σ τ : CS} (hW : WC σ) (hR : IRol σ τ) (hN : τ.1 60 = nI (rws σ 11)) (a0 a1 : Int32) : AgX (f_FC_joined a0 a1 σ) (f_M_joined a0 a1 τ) (fun c0 => c0 = 0 ∨ c0 = 1) (fun c0 => (if c0 = 0 then (0 : Int32) else 1)) (JRol σ τ) := by
  have h40 : rws σ 11 ≤ 40 := hW.hlim (t := 11) (by omega)
  have h32 : rws σ 12 ≤ 32 := hW.hlim (t := 12) (by omega)
  unfold f_FC_joined f_M_joined B_M_joined_20
  simp only [fc_within, fm_in, bnd_s]
  by_cases q1 : a1 < 0 ∨ 1 < a1
  · simp only [if_pos q1, if_true, fm_bad1, bnd_s, if_neg i10]
    refine AgX.mk 1 0 σ 0 _ rfl (Or.inr rfl) rfl rfl (fun z => absurd z (by decide)) ⟨hW, hR.fr (I := []) (A := []) (FrC.refl _ _ _) (I' := [0]) (A' := []) ((FrM.f1 _ _ (by decide)).trans (FrM.f1 _ _ (by decide))) (Nat.le_refl _) (by decide) (by decide) (by decide), FrC.refl _ _ _, (FrM.f1 _ _ (by decide)).trans (FrM.f1 _ _ (by decide))⟩
  simp only [if_neg q1, if_neg i10, fm_bad0, bnd_s, if_true]
  obtain ⟨v, σ1, g1, g2, g3, g4, g5, g6⟩ := entryC hW hR a0
  have s := SR.of g3 (by decide) (by decide)
  have T0 : RolT σ (sF τ 0 0) := hR.1
  have R1 : ∀ τ', FrM [0, 86, 87] [82, 83, 84, 85] τ τ' → IRol σ1 τ' := fun τ' f => ⟨hR.1.fr (Nat.le_of_eq (g3.fr (t := 11) (by decide)).symm) (g3.1 38 (by decide)) (g3.2 12 (by decide)).1 (f.2 79 (by decide)) (f.2 80 (by decide)) (f.2 81 (by decide)), Or.inl ⟨g5, g4⟩⟩
  -- the end
  have fin : ∀ (u : Int32) (τ' : CS), f_M_joined a0 a1 τ = some (u, τ') → FrM [0, 86, 87] [82, 83, 84, 85] τ τ' → τ'.1 0 = 0 → (if a1 = 0 then bnd (f_Rolls_entryAt a0 σ) (fun r18 σ18 => some (((0 : Int32), r18), σ18)) else bnd (f_Rolls_sumAt a0 σ) (fun r29 σ29 => some (((0 : Int32), r29), σ29))) = some ((0, u), σ1) → AgX (if a1 = 0 then bnd (f_Rolls_entryAt a0 σ) (fun r18 σ18 => some (((0 : Int32), r18), σ18)) else bnd (f_Rolls_sumAt a0 σ) (fun r29 σ29 => some (((0 : Int32), r29), σ29))) (f_M_joined a0 a1 τ) (fun c0 => c0 = 0 ∨ c0 = 1) (fun c0 => (if c0 = 0 then (0 : Int32) else 1)) (JRol σ τ) := fun u τ' x1 x2 x3 x4 =>
    AgX.mk 0 u σ1 u τ' x4 (Or.inl rfl) x1 x3 (fun _ => rfl) ⟨g2, R1 τ' x2, g3, x2⟩
  have eM : f_M_joined a0 a1 τ = bnd (f_M_lists (sF τ 0 0)) (fun r30 σ30 => if r30 = 0 then some ((-1), σ30) else bnd (f_M_in a0 0 ((σ30.1 86) - 1) σ30) (fun r44 σ44 => if r44 = 0 then some ((-1), σ44) else gix a0 8 (gix (rd σ44 85 a0) 8 (if a1 = 0 then some ((rd σ44 82 (rd σ44 85 a0)), σ44) else bnd (f_M_sumOf (rd σ44 82 (rd σ44 85 a0)) σ44) (fun r74 σ74 => some (r74, σ74)))))) := by
    unfold f_M_joined B_M_joined_20
    simp only [fm_in, bnd_s, if_neg q1, if_neg i10, fm_bad0, if_true]
  have noC : v = -1 → (if a1 = 0 then bnd (f_Rolls_entryAt a0 σ) (fun r18 σ18 => some (((0 : Int32), r18), σ18)) else bnd (f_Rolls_sumAt a0 σ) (fun r29 σ29 => some (((0 : Int32), r29), σ29))) = some ((0, -1), σ1) := by
    intro hv
    subst hv
    have sn := sum_none g2 (-1) 0 (rws σ1 12) 0 FU (by omega) (lt_FU (by rw [s.1]; omega))
    have sn' : L_Rolls_sumAt_14 (-1) FU (-1) 0 0 σ1 = some (-1, σ1) := sn
    unfold f_Rolls_sumAt
    rw [g1, bnd_s, bnd_s, sn', bnd_s, ite_self]
  suffices hh : AgX (if a1 = 0 then bnd (f_Rolls_entryAt a0 σ) (fun r18 σ18 => some (((0 : Int32), r18), σ18)) else bnd (f_Rolls_sumAt a0 σ) (fun r29 σ29 => some (((0 : Int32), r29), σ29))) (f_M_joined a0 a1 τ) (fun c0 => c0 = 0 ∨ c0 = 1) (fun c0 => (if c0 = 0 then (0 : Int32) else 1)) (JRol σ τ) by
    rw [eM] at hh
    simp only [fm_in] at hh
    exact hh
  rcases listsM T0 hN h40 with ⟨a, τ', b, c⟩ | ⟨a, τ', b, c, d, -, e82, e85⟩
  · have F : FrM [0, 86, 87] [82, 83, 84, 85] τ τ' := (FrM.f1 _ _ (by decide)).trans (c.mono (by decide) (by decide))
    have hv : v = -1 := by
      rcases g6 with ⟨x, -⟩ | ⟨-, x⟩
      · omega
      · exact x
    exact fin (-1) τ' (by rw [eM, b, bnd_s, if_pos rfl]) F ((c.1 0 (by decide)).trans (sF_self τ 0 0)) (noC hv)
  have F : FrM [0, 86, 87] [82, 83, 84, 85] τ τ' := (FrM.f1 _ _ (by decide)).trans (c.mono (by decide) (by decide))
  have z0 : τ'.1 0 = 0 := (c.1 0 (by decide)).trans (sF_self τ 0 0)
  rcases g6 with ⟨-, k, k1, rfl, hv⟩ | ⟨x, hv⟩
  rotate_left
  · have hno : ¬ ∃ k, k < nL σ ∧ a0 = nI k := by
      rcases x with x | x
      · omega
      · exact x
    exact fin (-1) τ' (by rw [eM, b, bnd_s, if_neg i10, d, fm_idx0 (by omega) hno, bnd_s, if_pos rfl]) F z0 (noC hv)
  have hO := LSf_opt (wR_b σ) a
  have hg := (fst_lt hO k1).1
  have hg40 := (el_ok hg).1
  have eM2 : f_M_joined (nI k) a1 τ = if a1 = 0 then some (nI (el σ (gch (wR σ) (nL σ) (LSf (wR σ) (nL σ)) 0 k)), τ') else bnd (f_M_sumOf (nI (el σ (gch (wR σ) (nL σ) (LSf (wR σ) (nL σ)) 0 k))) τ') (fun r74 σ74 => some (r74, σ74)) := by
    rw [eM, b, bnd_s, if_neg i10, d, fm_idx1 k1 (by omega), bnd_s, if_neg i10, gix_n (by omega) (by omega), rdn (by omega), e85 k k1, gix_n (by omega) (by omega), rdn (by omega), e82 _ hg]
  subst hv
  by_cases q : a1 = 0
  · refine fin _ τ' (by rw [eM2, if_pos q]) F z0 ?_
    rw [if_pos q, g1, bnd_s]
  · have T1 : RolT σ1 τ' := (R1 τ' F).1
    have hl := (el_ok hg).2.1
    have hl1 : Lp σ1 (el σ (gch (wR σ) (nL σ) (LSf (wR σ) (nL σ)) 0 k)) = true := by rw [s.eLp]; exact hl
    obtain ⟨e0, y1, y2, y3, y4⟩ := sumC g2 T1 hg40 (by rw [g3.fr (t := 11) (by decide)]; exact h40) hl1
    obtain ⟨e1, w1, w2, w3, w4⟩ := sumM T1 (by rw [s.1]; exact h32) hg40 hl1
    have es : sm σ1 e0 = sm σ1 e1 := by
      have z1 := y3 e1 w1 w2
      have z2 := w3 e0 y1 y2
      unfold lxe at z1 z2
      omega
    refine fin (nI (sm σ1 e1)) τ' (by rw [eM2, if_neg q, w4, bnd_s]) F z0 ?_
    unfold f_Rolls_sumAt
    rw [if_neg q, g1, bnd_s, y4, bnd_s, es]
/-! enter -/
theorem cnt_all {σ τ : CS} (hT : RolT σ τ) : ∀ e, e ≤ rws σ 12 → e = sumN (fun h => cnt (ofH σ h) e) 4 := by
  intro e
  induction e with
  | zero => intro _; exact (sumN_zero (f := fun h => cnt (ofH σ h) 0) 4 (fun _ _ => rfl)).symm
  | succ e ih =>
    intro he
    have h4 := (hT.1 e (by omega)).1.2
    have e1 : sumN (fun h => cnt (ofH σ h) (e + 1)) 4 = sumN (fun h => cnt (ofH σ h) e) 4 + sumN (fun h => if ofH σ h e = true then 1 else 0) 4 := by
      rw [← sumN_add]
      exact sumN_congr 4 (fun h _ => cnt_s _ _)
    have e2 : sumN (fun h => if ofH σ h e = true then 1 else 0) 4 = 1 := by
      rw [sumN_one (f := fun h => if ofH σ h e = true then 1 else 0) (i0 := hd σ e) 4 h4 (fun h _ hne => if_neg (fun z => hne (of_decide_eq_true z).symm))]
      exact if_pos (decide_eq_true rfl)
    rw [e1, e2, ← ih (by omega)]
abbrev JEnt (σ τ σ1 τ1 : CS) : Prop := WC σ1 ∧ IRol σ1 τ1 ∧ FrC [38, 66] [12] σ σ1 ∧ FrM [0] [79, 80, 81] τ τ1
theorem pm_enter {σ τ : CS} (hW : WC σ) (hR : IRol σ τ) (hK : ICas σ τ) (a0 a1 a2 : Int32) : AgX (f_FC_enter a0 a1 a2 σ) (f_M_enter a0 a1 a2 τ) (fun c0 => c0 = 0 ∨ c0 = 3 ∨ c0 = 1) (fun c0 => (if c0 = 0 then (0 : Int32) else if c0 = 3 then 1 else 2)) (JEnt σ τ) := by
  have h40 : rws σ 11 ≤ 40 := hW.hlim (t := 11) (by omega)
  have h32 : rws σ 12 ≤ 32 := hW.hlim (t := 12) (by omega)
  have hK0 : ICas σ (sF τ 0 0) := hK.thr τ 0
  have thr : ∀ τ', FrM [0] [] τ τ' → JEnt σ τ σ τ' := fun τ' f => ⟨hW, hR.fr (I := []) (A := []) (FrC.refl _ _ _) f (Nat.le_refl _) (by decide) (by decide) (by decide), FrC.refl _ _ _, f.mono (by decide) (by decide)⟩
  unfold f_FC_enter f_M_enter B_FC_enter_27
  simp only [fc_within, fm_in, bnd_s]
  by_cases q0 : a0 < 0 ∨ 3 < a0
  · simp only [if_pos q0, if_true, B_FC_enter_28, B_M_enter_28, fm_bad1, bnd_s, if_neg i10]
    exact AgX.mk 3 0 σ 0 _ rfl (Or.inr (Or.inl rfl)) rfl rfl (fun z => absurd z (by decide)) (thr _ ((FrM.f1 _ _ (by decide)).trans (FrM.f1 _ _ (by decide))))
  simp only [if_neg q0, if_neg i10]
  obtain ⟨h, hh, rfl⟩ := Rg.of q0 (n := 3) rfl (by omega) (by decide)
  by_cases q1 : ∃ p, p < rws σ 11 ∧ a1 = nI p
  rotate_left
  · simp only [tb_has0 hW 11 (by omega) q1, isCa_m0 hW hK0 q1, bnd_s, if_true, B_FC_enter_28, B_M_enter_28, fm_bad1, if_neg i10]
    exact AgX.mk 3 0 σ 0 _ rfl (Or.inr (Or.inl rfl)) rfl rfl (fun z => absurd z (by decide)) (thr _ ((FrM.f1 _ _ (by decide)).trans (FrM.f1 _ _ (by decide))))
  obtain ⟨p, hp, rfl⟩ := q1
  simp only [tb_has1 hW 11 (by omega) hp, isCa_m hW hK0 hp, bnd_s, if_neg i10, B_FC_enter_28, B_M_enter_28, fm_bad0, if_true, fc_within, fm_in]
  by_cases q2 : a2 < 0 ∨ 100000 < a2
  · simp only [if_pos q2, if_true, B_M_enter_52, fm_bad1, bnd_s, if_neg i10]
    exact AgX.mk 1 0 σ 0 _ rfl (Or.inr (Or.inr rfl)) rfl rfl (fun z => absurd z (by decide)) (thr _ ((FrM.f1 _ _ (by decide)).trans (FrM.f1 _ _ (by decide))))
  simp only [if_neg q2, if_neg i10, B_M_enter_52, fm_bad0, bnd_s, if_true]
  obtain ⟨s, hs, rfl⟩ := Rg.of q2 (n := 100000) rfl (by omega) (by decide)
  have hT := hR.1
  obtain ⟨h79, h8⟩ := hT.2.1 h (by omega)
  -- the class reads its rows
  have lpC : ∀ (d e m : Nat), e + d = rws σ 12 → d < m → L_Rolls_addEntry_9 B_Rolls_addEntry_68 (nI h) (nI p) (nI s) m (nI (cnt (ofH σ h) e)) (nI (if anyR (fun e => decide (hd σ e = h ∧ pr σ e = p)) e = true then 1 else 0)) (nI e) σ = B_Rolls_addEntry_68 (nI h) (nI p) (nI s) (nI (cnt (ofH σ h) (rws σ 12))) (nI (if anyR (fun e => decide (hd σ e = h ∧ pr σ e = p)) (rws σ 12) = true then 1 else 0)) σ := by
    intro d
    induction d with
    | zero =>
      intro e m h1 h2
      obtain ⟨m, rfl⟩ : ∃ n, m = n + 1 := ⟨m - 1, by omega⟩
      have : e = rws σ 12 := by omega
      subst this
      rw [L_Rolls_addEntry_9, tb_size hW 12 (by omega), bnd_s, if_pos (nI_le (Nat.le_refl _) (by omega))]
    | succ d ih =>
      intro e m h1 h2
      obtain ⟨m, rfl⟩ : ∃ n, m = n + 1 := ⟨m - 1, by omega⟩
      obtain ⟨⟨b1, b2⟩, ⟨c1, c2⟩, -⟩ := hT.1 e (by omega)
      have ih' := ih (e + 1) m (by omega) (by omega)
      have ea : anyR (fun e => decide (hd σ e = h ∧ pr σ e = p)) (e + 1) = (anyR (fun e => decide (hd σ e = h ∧ pr σ e = p)) e || decide (hd σ e = h ∧ pr σ e = p)) := rfl
      rw [ea, cnt_s] at ih'
      unfold L_Rolls_addEntry_9 B_Rolls_addEntry_59
      rw [tb_size hW 12 (by omega), bnd_s, if_neg (nI_ge (by omega) (by omega)), tb_gl hW 12 (by omega) e 0 (by omega) (by decide), bnd_s, b1, nI_1, nI_1]
      by_cases x : hd σ e = h
      · rw [if_pos (by rw [x]), tb_gl hW 12 (by omega) e 1 (by omega) (by decide), bnd_s, c1]
        rw [if_pos (show ofH σ h e = true from decide_eq_true x)] at ih'
        by_cases y : pr σ e = p
        · rw [if_pos (by rw [y])]
          rw [decide_eq_true (⟨x, y⟩ : hd σ e = h ∧ pr σ e = p), Bool.or_true, if_pos rfl] at ih'
          show L_Rolls_addEntry_9 _ (nI h) (nI p) (nI s) m _ (nI _ ||| nI 1) (nI (e + 1)) σ = _
          rw [nI_or]
          have : (if anyR (fun e => decide (hd σ e = h ∧ pr σ e = p)) e = true then 1 else 0) ||| 1 = 1 := by split <;> rfl
          rw [this]
          exact ih'
        · rw [if_neg (fun z => y (nI_eqI (by omega) (by omega) z))]
          rw [decide_eq_false (fun z : hd σ e = h ∧ pr σ e = p => y z.2), Bool.or_false] at ih'
          show L_Rolls_addEntry_9 _ (nI h) (nI p) (nI s) m _ (nI _ ||| nI 0) (nI (e + 1)) σ = _
          rw [nI_or, Nat.or_zero]
          exact ih'
      · rw [if_neg (fun z => x (nI_eqI (by omega) (by omega) z))]
        rw [if_neg (show ¬ ofH σ h e = true from fun z => x (of_decide_eq_true z)), Nat.add_zero, decide_eq_false (fun z : hd σ e = h ∧ pr σ e = p => x z.1), Bool.or_false] at ih'
        exact ih'
  have eC := lpC (rws σ 12) 0 FU (by omega) (lt_FU (by omega))
  have eC' : f_Rolls_addEntry (nI h) (nI p) (nI s) σ = B_Rolls_addEntry_68 (nI h) (nI p) (nI s) (nI (cnt (ofH σ h) (rws σ 12))) (nI (if anyR (fun e => decide (hd σ e = h ∧ pr σ e = p)) (rws σ 12) = true then 1 else 0)) σ := eC
  have r79 : rd (sF τ 0 0) 79 (nI h) = nI (cnt (ofH σ h) (rws σ 12)) := by
    rw [rdn (by omega)]
    exact h79
  rw [eC', gix_n (show h < 4 by omega) (by omega), r79]
  unfold B_Rolls_addEntry_68
  have F0 : FrM [0] [] τ (sF τ 0 0) := FrM.f1 _ _ (by decide)
  by_cases q8 : cnt (ofH σ h) (rws σ 12) = 8
  · rw [if_neg (fun z => absurd ((lt_lit 8 (by omega) (by omega)).1 z) (by omega)), if_pos (show nI (cnt (ofH σ h) (rws σ 12)) = 8 by rw [q8]; rfl), bnd_s]
    exact AgX.mk 0 _ σ _ _ rfl (Or.inl rfl) rfl (sF_self τ 0 0) (fun _ => rfl) (thr _ F0)
  rw [if_pos ((lt_lit 8 (by omega) (by omega)).2 (by omega)), if_neg (show ¬ nI (cnt (ofH σ h) (rws σ 12)) = 8 from fun z => q8 (nI_eqI (b := 8) (by omega) (by omega) z))]
  -- the reference reads its hand
  have lpM : ∀ (d i m : Nat), i + d = cnt (ofH σ h) (rws σ 12) → d < m → (∀ e, e < rws σ 12 → hd σ e = h → cnt (ofH σ h) e < i → ¬ pr σ e = p) → ((∃ e, e < rws σ 12 ∧ hd σ e = h ∧ pr σ e = p) ∧ L_M_enter_81 B_M_enter_113 (nI h) (nI p) (nI s) (nI (cnt (ofH σ h) (rws σ 12))) m (nI i) (sF τ 0 0) = some (-2, sF τ 0 0)) ∨ ((∀ e, e < rws σ 12 → ¬ (hd σ e = h ∧ pr σ e = p)) ∧ L_M_enter_81 B_M_enter_113 (nI h) (nI p) (nI s) (nI (cnt (ofH σ h) (rws σ 12))) m (nI i) (sF τ 0 0) = B_M_enter_113 (nI h) (nI p) (nI s) (nI (cnt (ofH σ h) (rws σ 12))) (sF τ 0 0)) := by
    intro d
    induction d with
    | zero =>
      intro i m g1 g2 g3
      obtain ⟨m, rfl⟩ : ∃ n, m = n + 1 := ⟨m - 1, by omega⟩
      right
      refine ⟨fun e he z => g3 e he z.1 ?_ z.2, by rw [L_M_enter_81, if_pos (nI_le (by omega) (by omega))]⟩
      have := cnt_lt (P := ofH σ h) he (decide_eq_true z.1)
      omega
    | succ d ih =>
      intro i m g1 g2 g3
      obtain ⟨m, rfl⟩ : ∃ n, m = n + 1 := ⟨m - 1, by omega⟩
      obtain ⟨e, e1, e2, e3⟩ := cnt_inv (P := ofH σ h) (rws σ 12) i (by omega)
      have e2' : hd σ e = h := of_decide_eq_true e2
      obtain ⟨-, ⟨-, b2⟩, -, b3, -⟩ := hT.1 e e1
      rw [e2', e3] at b3
      have ei : (8 : Int32) * nI h + nI i = nI (8 * h + i) := by rw [show (8 : Int32) = nI 8 from rfl, nI_mul, nI_add]
      have b3' : rd (sF τ 0 0) 80 (nI (8 * h + i)) = nI (pr σ e) := by
        rw [rdn (by omega)]
        exact b3
      rw [L_M_enter_81, if_neg (nI_ge (by omega) (by omega)), ei, gix_n (by omega) (by omega), b3', nI_1]
      by_cases q : pr σ e = p
      · left
        rw [if_pos (by rw [q])]
        exact ⟨⟨e, e1, e2', q⟩, rfl⟩
      · rw [if_neg (fun z => q (nI_eqI (by omega) (by omega) z))]
        refine ih (i + 1) m (by omega) (by omega) (fun e' he' hh' hc' => ?_)
        by_cases z : cnt (ofH σ h) e' = i
        · have : e' = e := cnt_inj (P := ofH σ h) (decide_eq_true hh') e2 (by omega)
          rw [this]; exact q
        · exact g3 e' he' hh' (by omega)
  have anyE : (anyR (fun e => decide (hd σ e = h ∧ pr σ e = p)) (rws σ 12) = true) ↔ ∃ e, e < rws σ 12 ∧ hd σ e = h ∧ pr σ e = p := by
    rw [anyR_iff]
    constructor
    · rintro ⟨e, x, y⟩; exact ⟨e, x, of_decide_eq_true y⟩
    · rintro ⟨e, x, y⟩; exact ⟨e, x, decide_eq_true y⟩
  have eM := lpM (cnt (ofH σ h) (rws σ 12)) 0 FU (by omega) (lt_FU (by omega)) (fun e _ _ hc => by omega)
  rcases eM with ⟨x1, x2⟩ | ⟨x1, x2⟩
  · have x2' : L_M_enter_81 B_M_enter_113 (nI h) (nI p) (nI s) (nI (cnt (ofH σ h) (rws σ 12))) FU 0 (sF τ 0 0) = some (-2, sF τ 0 0) := x2
    rw [x2', if_pos (anyE.2 x1), if_neg (show ¬ nI 1 = (0 : Int32) by decide), bnd_s]
    exact AgX.mk 0 _ σ _ _ rfl (Or.inl rfl) rfl (sF_self τ 0 0) (fun _ => rfl) (thr _ F0)
  have x2' : L_M_enter_81 B_M_enter_113 (nI h) (nI p) (nI s) (nI (cnt (ofH σ h) (rws σ 12))) FU 0 (sF τ 0 0) = B_M_enter_113 (nI h) (nI p) (nI s) (nI (cnt (ofH σ h) (rws σ 12))) (sF τ 0 0) := x2
  have r32 : rws σ 12 < 32 := by
    have c := cnt_all hT (rws σ 12) (Nat.le_refl _)
    have b : ∀ h', h' < 4 → cnt (ofH σ h') (rws σ 12) ≤ 8 := fun h' hh' => (hT.2.1 h' hh').2
    have b0 := b 0 (by omega)
    have b1 := b 1 (by omega)
    have b2 := b 2 (by omega)
    have b3 := b 3 (by omega)
    have c' : rws σ 12 = 0 + cnt (ofH σ 0) (rws σ 12) + cnt (ofH σ 1) (rws σ 12) + cnt (ofH σ 2) (rws σ 12) + cnt (ofH σ 3) (rws σ 12) := c
    have : h = 0 ∨ h = 1 ∨ h = 2 ∨ h = 3 := by omega
    rcases this with rfl | rfl | rfl | rfl <;> omega
  obtain ⟨σ1, d1, d2⟩ := tb_add hW 12 (by omega) (show rws σ 12 < 32 from r32)
  obtain ⟨d3, d4⟩ := tb_putA d2 (by omega) 0 (by decide) (nI h) (ci := 0) rfl
  obtain ⟨d5, d6⟩ := tb_putA d4 (by omega) 1 (by decide) (nI p) (ci := 1) rfl
  obtain ⟨d7, d8⟩ := tb_putA d6 (by omega) 2 (by decide) (nI s) (ci := 2) rfl
  have Fa := App.fr d8
  have nAny : ¬ anyR (fun e => decide (hd σ e = h ∧ pr σ e = p)) (rws σ 12) = true := fun z => by
    obtain ⟨e, e1, e2⟩ := anyE.1 z
    exact x1 e e1 e2
  rw [x2', if_neg nAny, if_pos (show nI 0 = (0 : Int32) from rfl), d1, bnd_s, d3, bnd_s, d5, bnd_s, d7, bnd_s, bnd_s]
  generalize pt (pt (pt σ1 12 (rws σ 12) 0 (nI h)) 12 (rws σ 12) 1 (nI p)) 12 (rws σ 12) 2 (nI s) = σ2 at d8 Fa
  have ei : (8 : Int32) * nI h + nI (cnt (ofH σ h) (rws σ 12)) = nI (8 * h + cnt (ofH σ h) (rws σ 12)) := by rw [show (8 : Int32) = nI 8 from rfl, nI_mul, nI_add]
  have eE : B_M_enter_113 (nI h) (nI p) (nI s) (nI (cnt (ofH σ h) (rws σ 12))) (sF τ 0 0) = some (nI (cnt (ofH σ h) (rws σ 12) + 1), sA (sA (sA (sF τ 0 0) 80 (upd (τ.2.1 80) (8 * h + cnt (ofH σ h) (rws σ 12)) (nI p))) 81 (upd (τ.2.1 81) (8 * h + cnt (ofH σ h) (rws σ 12)) (nI s))) 79 (upd (τ.2.1 79) h (nI (cnt (ofH σ h) (rws σ 12) + 1)))) := by
    unfold B_M_enter_113
    rw [ei, gix_n (by omega) (by omega), gix_n (by omega) (by omega), gix_n (by omega) (by omega), gix_n (by omega) (by omega), wrn (by omega), wrn (by omega), wrn (by omega), rdn (by omega), nI_1]
    simp only [va_up, reduceIte, Nat.reduceEqDiff, h79, nI_1]
  rw [eE, nI_1]
  have W3 : WC (sF σ2 66 1) := sF_W d8.1 (by omega) _
  have F3 : FrC [38, 66] [12] σ (sF σ2 66 1) := (Fa.mono (by decide) (by decide)).trans (FrC.f1 _ _ (by decide))
  have G3 : FrM [0] [79, 80, 81] τ (sA (sA (sA (sF τ 0 0) 80 (upd (τ.2.1 80) (8 * h + cnt (ofH σ h) (rws σ 12)) (nI p))) 81 (upd (τ.2.1 81) (8 * h + cnt (ofH σ h) (rws σ 12)) (nI s))) 79 (upd (τ.2.1 79) h (nI (cnt (ofH σ h) (rws σ 12) + 1)))) := (FrM.f1 _ _ (by decide)).trans ((FrM.f2 _ _ (by decide)).trans ((FrM.f2 _ _ (by decide)).trans (FrM.f2 _ _ (by decide))))
  refine AgX.mk 0 _ (sF σ2 66 1) _ _ rfl (Or.inl rfl) rfl (sF_self τ 0 0) (fun _ => rfl) ⟨W3, ⟨?_, Or.inr (sF_self σ2 66 1)⟩, F3, G3⟩
  -- the rows anew
  have rN : rws (sF σ2 66 1) 12 = rws σ 12 + 1 := d8.2.1
  have r11 : rws (sF σ2 66 1) 11 = rws σ 11 := F3.fr (t := 11) (by decide)
  have old : ∀ e c, e < rws σ 12 → c < 3 → cel (sF σ2 66 1) 12 e c = cel σ 12 e c := fun e c he hc => d8.2.2.2.2.2 e c he (show c < wid 12 from hc)
  have n0 : cel (sF σ2 66 1) 12 (rws σ 12) 0 = nI h := by
    have := d8.2.2.2.2.1 0 (by decide)
    simp [upd] at this
    exact this
  have n1 : cel (sF σ2 66 1) 12 (rws σ 12) 1 = nI p := by
    have := d8.2.2.2.2.1 1 (by decide)
    simp [upd] at this
    exact this
  have n2 : cel (sF σ2 66 1) 12 (rws σ 12) 2 = nI s := by
    have := d8.2.2.2.2.1 2 (by decide)
    simp [upd] at this
    exact this
  have hdo : ∀ e, e < rws σ 12 → hd (sF σ2 66 1) e = hd σ e := fun e he => by unfold hd; rw [old e 0 he (by omega)]
  have pro : ∀ e, e < rws σ 12 → pr (sF σ2 66 1) e = pr σ e := fun e he => by unfold pr; rw [old e 1 he (by omega)]
  have smo : ∀ e, e < rws σ 12 → sm (sF σ2 66 1) e = sm σ e := fun e he => by unfold sm; rw [old e 2 he (by omega)]
  have hdn : hd (sF σ2 66 1) (rws σ 12) = h := by unfold hd; rw [n0, nI_clamp (by omega)]
  have prn : pr (sF σ2 66 1) (rws σ 12) = p := by unfold pr; rw [n1, nI_clamp (by omega)]
  have smn : sm (sF σ2 66 1) (rws σ 12) = s := by unfold sm; rw [n2, nI_clamp (by omega)]
  have cno : ∀ h' e, e ≤ rws σ 12 → cnt (ofH (sF σ2 66 1) h') e = cnt (ofH σ h') e := fun h' e he => cnt_congr e (fun i hi => by unfold ofH; rw [hdo i (by omega)])
  have m80 : ∀ x, (sA (sA (sA (sF τ 0 0) 80 (upd (τ.2.1 80) (8 * h + cnt (ofH σ h) (rws σ 12)) (nI p))) 81 (upd (τ.2.1 81) (8 * h + cnt (ofH σ h) (rws σ 12)) (nI s))) 79 (upd (τ.2.1 79) h (nI (cnt (ofH σ h) (rws σ 12) + 1)))).2.1 80 x = if x = 8 * h + cnt (ofH σ h) (rws σ 12) then nI p else τ.2.1 80 x := fun x => by simp [va_up, upd]
  have m81 : ∀ x, (sA (sA (sA (sF τ 0 0) 80 (upd (τ.2.1 80) (8 * h + cnt (ofH σ h) (rws σ 12)) (nI p))) 81 (upd (τ.2.1 81) (8 * h + cnt (ofH σ h) (rws σ 12)) (nI s))) 79 (upd (τ.2.1 79) h (nI (cnt (ofH σ h) (rws σ 12) + 1)))).2.1 81 x = if x = 8 * h + cnt (ofH σ h) (rws σ 12) then nI s else τ.2.1 81 x := fun x => by simp [va_up, upd]
  have m79 : ∀ x, (sA (sA (sA (sF τ 0 0) 80 (upd (τ.2.1 80) (8 * h + cnt (ofH σ h) (rws σ 12)) (nI p))) 81 (upd (τ.2.1 81) (8 * h + cnt (ofH σ h) (rws σ 12)) (nI s))) 79 (upd (τ.2.1 79) h (nI (cnt (ofH σ h) (rws σ 12) + 1)))).2.1 79 x = if x = h then nI (cnt (ofH σ h) (rws σ 12) + 1) else τ.2.1 79 x := fun x => by simp [va_up, upd]
  refine ⟨fun e he => ?_, fun h' hh' => ?_, fun e e' he he' hx hy => ?_⟩
  · rw [rN] at he
    by_cases z : e = rws σ 12
    · subst z
      rw [hdn, prn, smn, n0, n1, n2, cno h _ (Nat.le_refl _), m80, m81, if_pos rfl, if_pos rfl, r11]
      exact ⟨⟨rfl, by omega⟩, ⟨rfl, hp⟩, ⟨rfl, hs⟩, rfl, rfl⟩
    · have he' : e < rws σ 12 := by omega
      obtain ⟨b1, b2, b3, b4, b5⟩ := hT.1 e he'
      have ne : ¬ 8 * hd σ e + cnt (ofH σ (hd σ e)) e = 8 * h + cnt (ofH σ h) (rws σ 12) := by
        by_cases y : hd σ e = h
        · have := cnt_lt (P := ofH σ h) he' (decide_eq_true y)
          rw [y]
          omega
        · have := Nat.lt_of_lt_of_le (cnt_lt (P := ofH σ (hd σ e)) he' (decide_eq_true rfl)) (hT.2.1 (hd σ e) b1.2).2
          omega
      rw [hdo e he', pro e he', smo e he', old e 0 he' (by omega), old e 1 he' (by omega), old e 2 he' (by omega), cno _ e (by omega), m80, m81, if_neg ne, if_neg ne, r11]
      exact ⟨b1, b2, b3, b4, b5⟩
  · rw [rN, cnt_s, cno h' _ (Nat.le_refl _), m79]
    obtain ⟨y1, y2⟩ := hT.2.1 h' hh'
    by_cases z : h' = h
    · subst z
      have : ofH (sF σ2 66 1) h' (rws σ 12) = true := decide_eq_true hdn
      rw [if_pos rfl, if_pos this]
      exact ⟨rfl, by omega⟩
    · have : ¬ ofH (sF σ2 66 1) h' (rws σ 12) = true := fun y => z ((of_decide_eq_true y).symm.trans hdn)
      rw [if_neg z, if_neg this, Nat.add_zero]
      exact ⟨y1, y2⟩
  · rw [rN] at he he'
    by_cases z1 : e = rws σ 12
    · by_cases z2 : e' = rws σ 12
      · omega
      · rw [z1, hdn, hdo e' (by omega)] at hx
        rw [z1, prn, pro e' (by omega)] at hy
        exact absurd ⟨hx.symm, hy.symm⟩ (x1 e' (by omega))
    · by_cases z2 : e' = rws σ 12
      · rw [z2, hdn, hdo e (by omega)] at hx
        rw [z2, prn, pro e (by omega)] at hy
        exact absurd ⟨hx, hy⟩ (x1 e (by omega))
      · rw [hdo e (by omega), hdo e' (by omega)] at hx
        rw [pro e (by omega), pro e' (by omega)] at hy
        exact hT.2.2 e e' (by omega) (by omega) hx hy
