/-! ===== layer 2: rings (their plain calls) ===== -/
def IRin (σ τ : CS) : Prop := τ.1 10 = nI (rws σ 2) ∧ τ.1 11 = σ.1 48 ∧ Rg (σ.1 48) 100 ∧ ∀ r, r < rws σ 2 → τ.2.1 14 r = cel σ 2 r 0 ∧ τ.2.1 15 r = cel σ 2 r 1 ∧ τ.2.1 13 r = cel σ 2 r 2 ∧ Rg (cel σ 2 r 0) 100000 ∧ Rn (cel σ 2 r 1) 100000 ∧
  ∃ n, 3 ≤ n ∧ n ≤ 10 ∧ cel σ 2 r 2 = nI n ∧ ∀ k, k < n → τ.2.1 12 (10 * r + k) = cel σ 2 r (3 + k) ∧ Ix (cel σ 2 r (3 + k)) (rws σ 1)
theorem IRin.fr {σ τ σ' τ' : CS} (h : IRin σ τ) (e0 : rws σ 1 ≤ rws σ' 1) (e1 : σ'.1 8 = σ.1 8) (e2 : σ'.2.1 2 = σ.2.1 2) (e3 : σ'.1 48 = σ.1 48) (e4 : τ'.1 10 = τ.1 10) (e5 : τ'.1 11 = τ.1 11) (e6 : τ'.2.1 12 = τ.2.1 12) (e7 : τ'.2.1 13 = τ.2.1 13) (e8 : τ'.2.1 14 = τ.2.1 14) (e9 : τ'.2.1 15 = τ.2.1 15) : IRin σ' τ' := by
  have r : rws σ' 2 = rws σ 2 := by unfold rws; rw [show 3 * 2 + 2 = 8 from rfl, e1]
  have c : ∀ i c, cel σ' 2 i c = cel σ 2 i c := fun i c => by unfold cel; rw [e2]
  unfold IRin
  simp only [r, c, e3, e4, e5, e6, e7, e8, e9]
  refine ⟨h.1, h.2.1, h.2.2.1, fun i hi => ?_⟩
  obtain ⟨a1, a2, a3, a4, a5, n, a6, a7, a8, a9⟩ := h.2.2.2 i hi
  exact ⟨a1, a2, a3, a4, a5, n, a6, a7, a8, fun k hk => ⟨(a9 k hk).1, (a9 k hk).2.mono e0⟩⟩
theorem IRin.thr {σ : CS} (τ : CS) (c : Int32) (h : IRin σ τ) : IRin σ (sF τ 0 c) := h.fr (Nat.le_refl _) rfl rfl rfl rfl rfl rfl rfl rfl rfl
abbrev JRin := Jg [8, 48] [2] [0, 10, 11] [12, 13, 14, 15] IRin
theorem pm_strip {σ τ : CS} (hW : WC σ) (hP : IRin σ τ) (a0 : Int32) : AgX (f_FC_strip a0 σ) (f_M_strip a0 τ) (fun c0 => c0 = 0 ∨ c0 = 1) (fun c0 => (if c0 = 0 then (0 : Int32) else 1)) (JRin σ τ) := by
  unfold f_FC_strip f_M_strip
  simp only [fc_within, fm_in, bnd_s]
  by_cases q0 : a0 < 0 ∨ 100 < a0
  · simp only [if_pos q0, if_true, B_M_strip_21, fm_bad1, bnd_s, if_neg i10]
    exact AgX.mk 1 0 σ 0 _ rfl (Or.inr rfl) rfl rfl (fun z => absurd z (by decide)) (Jg.thr2 hW IRin.thr hP (by decide) _ _)
  · simp only [if_neg q0, if_true, B_M_strip_21, fm_bad0, bnd_s, if_neg i10]
    refine AgX.mk 0 _ _ _ _ rfl (Or.inl rfl) rfl rfl (fun _ => hP.2.1.symm) ⟨sF_W hW (by omega) _, ?_, FrC.f1 _ _ (by decide), (FrM.f1 _ _ (by decide)).trans (FrM.f1 _ _ (by decide))⟩
    unfold IRin
    simp only [sF_rw σ (show 48 ≤ 48 by omega) a0 (show 2 < 15 by omega), sF_rw σ (show 48 ≤ 48 by omega) a0 (show 1 < 15 by omega), va_up, reduceIte, Nat.reduceEqDiff]
    exact ⟨hP.1, trivial, Rg.of q0 (n := 100) rfl (by omega) (by decide), hP.2.2.2⟩
theorem pm_unring {σ τ : CS} (hW : WC σ) (hP : IRin σ τ) (a0 a1 : Int32) : AgX (f_FC_unring a0 a1 σ) (f_M_unring a0 a1 τ) (fun c0 => c0 = 0 ∨ c0 = 3 ∨ c0 = 1) (fun c0 => (if c0 = 0 then (0 : Int32) else if c0 = 3 then 1 else 2)) (JRin σ τ) := by
  have h40 : rws σ 2 ≤ 12 := hW.hlim (t := 2) (by omega)
  unfold f_FC_unring f_M_unring
  simp only [hP.1]
  by_cases q0 : ∃ j, j < rws σ 2 ∧ a0 = nI j
  · obtain ⟨j, hj, rfl⟩ := q0
    simp only [tb_has1 hW 2 (by omega) hj, fm_idx1 hj (show rws σ 2 < 2147483648 by omega), bnd_s, if_neg i10, B_M_unring_25, B_M_unring_49, fm_bad0, if_true, fc_isDay, fm_isDay]
    by_cases q1 : a1 = -1 ∨ ¬ (a1 < 0 ∨ 100000 < a1)
    · have eC : (if a1 = -1 then B_FC_unring_31 (nI j) a1 1 σ else if (if a1 < 0 ∨ 100000 < a1 then (0 : Int32) else 1) = 0 then B_FC_unring_31 (nI j) a1 0 σ else B_FC_unring_31 (nI j) a1 1 σ) = B_FC_unring_31 (nI j) a1 1 σ := by
        rcases q1 with q1 | q1
        · rw [if_pos q1]
        · rw [if_neg q1, if_neg i10, ite_self]
      have eM : (if a1 = -1 then B_M_unring_50 (nI j) a1 0 (sF τ 0 0) else if (if a1 < 0 ∨ 100000 < a1 then (0 : Int32) else 1) = 0 then B_M_unring_50 (nI j) a1 1 (sF τ 0 0) else B_M_unring_50 (nI j) a1 0 (sF τ 0 0)) = B_M_unring_50 (nI j) a1 0 (sF τ 0 0) := by
        rcases q1 with q1 | q1
        · rw [if_pos q1]
        · rw [if_neg q1, if_neg i10, ite_self]
      rw [eC, eM]
      simp only [B_FC_unring_31, B_M_unring_50, if_neg i10, fm_bad0, bnd_s, if_true, tb_swap hW 2 (by omega) j 1 hj (by decide), gix_n (show j < 12 by omega) (show 12 < 2147483648 by omega), rdn (show j < 2147483648 by omega), wrn (show j < 2147483648 by omega)]
      refine AgX.mk 0 _ _ _ _ rfl (Or.inl rfl) rfl rfl (fun _ => (hP.2.2.2 j hj).2.1.symm) ⟨pt_W hW _ _ _ _, ⟨hP.1, hP.2.1, hP.2.2.1, fun r hr => ?_⟩, FrC.f3 _ _ _ _ (by decide), (FrM.f1 _ _ (by decide)).trans (FrM.f2 _ _ (by decide))⟩
      have hr' : r < rws σ 2 := hr
      obtain ⟨b1, b2, b3, b4, b5, n, b6, b7, b8, b9⟩ := hP.2.2.2 r hr'
      have cc : ∀ c, c < 13 → cel (pt σ 2 j 1 a1) 2 r c = if r = j ∧ c = 1 then a1 else cel σ 2 r c := fun c hc => pt_cel _ 2 j 1 _ r c (by decide) hc
      simp only [pt_rws, cc 0 (by omega), cc 1 (by omega), cc 2 (by omega), va_up, reduceIte, Nat.reduceEqDiff, and_false, and_true, upd]
      refine ⟨b1, ?_, b3, b4, ?_, n, b6, b7, b8, fun k hk => ?_⟩
      · by_cases z : r = j
        · rw [if_pos z, if_pos z]
        · rw [if_neg z, if_neg z]; exact b2
      · by_cases z : r = j
        · rw [if_pos z]
          rcases q1 with q1 | q1
          · exact Or.inl q1
          · exact Or.inr (Rg.of q1 (n := 100000) rfl (by omega) (by decide))
        · rw [if_neg z]; exact b5
      · rw [cc (3 + k) (by omega), if_neg (by omega)]
        exact b9 k hk
    · have n1 : ¬ a1 = -1 := fun z => q1 (Or.inl z)
      have n2 : a1 < 0 ∨ 100000 < a1 := Classical.byContradiction (fun z => q1 (Or.inr z))
      simp only [if_neg n1, if_pos n2, if_true, B_FC_unring_31, B_M_unring_50, fm_bad1, bnd_s, if_neg i10]
      exact AgX.mk 1 0 σ 0 _ rfl (Or.inr (Or.inr rfl)) rfl rfl (fun z => absurd z (by decide)) (Jg.thr2 hW IRin.thr hP (by decide) _ _)
  · simp only [tb_has0 hW 2 (by omega) q0, fm_idx0 (show rws σ 2 < 2147483648 by omega) q0, bnd_s, if_true, B_M_unring_25, fm_bad1, if_neg i10]
    exact AgX.mk 3 0 σ 0 _ rfl (Or.inr (Or.inl rfl)) rfl rfl (fun z => absurd z (by decide)) (Jg.thr2 hW IRin.thr hP (by decide) _ _)
theorem bnd_loop {σ τ : CS} (hW : WC σ) (hP : IRin σ τ) (x : Int32) : ∀ (d j m m' : Nat) (b : Int32), j + d = rws σ 2 → d < m → d < m' → (b = -1 ∨ Ix b j) →
    ∃ r, L_Ground_boundsOn_4 x m b (nI j) σ = some (r, σ) ∧ L_M_boundsOf_4 x m' b (nI j) τ = some (r, τ) ∧ (r = -1 ∨ Ix r (rws σ 2)) := by
  have h40 : rws σ 2 ≤ 12 := hW.hlim (t := 2) (by omega)
  intro d
  induction d with
  | zero =>
    intro j m m' b h1 h2 h3 h4
    obtain ⟨m, rfl⟩ : ∃ q, m = q + 1 := ⟨m - 1, by omega⟩
    obtain ⟨m', rfl⟩ : ∃ q, m' = q + 1 := ⟨m' - 1, by omega⟩
    have hj : j = rws σ 2 := by omega
    subst hj
    refine ⟨b, ?_, ?_, h4⟩
    · show bnd (f_Table_size 2 σ) _ = _
      rw [tb_size hW 2 (by omega), bnd_s, if_pos (nI_le (Nat.le_refl _) (by omega))]
    · show (if τ.1 10 ≤ _ then _ else _) = _
      rw [hP.1, if_pos (nI_le (Nat.le_refl _) (by omega))]
  | succ d ih =>
    intro j m m' b h1 h2 h3 h4
    obtain ⟨m, rfl⟩ : ∃ q, m = q + 1 := ⟨m - 1, by omega⟩
    obtain ⟨m', rfl⟩ : ∃ q, m' = q + 1 := ⟨m' - 1, by omega⟩
    have hj : j < rws σ 2 := by omega
    obtain ⟨e1, e2, -, -, -, -⟩ := hP.2.2.2 j hj
    have n0 := ih (j + 1) m m' b (by omega) (by omega) (by omega) (h4.imp id (fun z => z.mono (by omega)))
    have n1 := ih (j + 1) m m' (nI j) (by omega) (by omega) (by omega) (Or.inr ⟨j, by omega, rfl⟩)
    unfold L_Ground_boundsOn_4 L_M_boundsOf_4
    simp only [tb_size hW 2 (by omega), bnd_s, if_neg (nI_ge hj (show rws σ 2 < 2 ^ 31 by omega)), hP.1, tb_gl hW 2 (by omega) j 0 hj (by decide), tb_gl hW 2 (by omega) j 1 hj (by decide), gix_n (show j < 12 by omega) (show 12 < 2147483648 by omega), rdn (show j < 2147483648 by omega), e1, e2, B_Ground_boundsOn_59, B_Ground_boundsOn_60, B_Ground_boundsOn_86, B_M_boundsOf_45, B_M_boundsOf_64, if_true, if_neg i10, nI_1]
    by_cases q1 : x < cel σ 2 j 0
    · rw [if_pos q1, if_pos q1]; exact n0
    rw [if_neg q1, if_neg q1]
    have hmid : ∃ r, (if b = -1 then L_Ground_boundsOn_4 x m (nI j) (nI (j + 1)) σ else bnd (f_Table_get 2 b 0 σ) fun r80 σ80 => if cel σ 2 j 0 < r80 then L_Ground_boundsOn_4 x m b (nI (j + 1)) σ80 else L_Ground_boundsOn_4 x m (nI j) (nI (j + 1)) σ80) = some (r, σ) ∧ (if b < 0 then L_M_boundsOf_4 x m' (nI j) (nI (j + 1)) τ else gix b 12 (if cel σ 2 j 0 < rd τ 14 b then L_M_boundsOf_4 x m' b (nI (j + 1)) τ else L_M_boundsOf_4 x m' (nI j) (nI (j + 1)) τ)) = some (r, τ) ∧ (r = -1 ∨ Ix r (rws σ 2)) := by
      rcases h4 with rfl | ⟨h, h5, rfl⟩
      · rw [if_pos rfl, if_pos (by decide)]; exact n1
      · have hh : h < rws σ 2 := by omega
        rw [if_neg (nI_neg1 (by omega)), if_neg (nI_pos (by omega)), tb_gl hW 2 (by omega) h 0 hh (by decide), bnd_s, gix_n (by omega) (by omega), rdn (by omega), (hP.2.2.2 h hh).1]
        by_cases q : cel σ 2 j 0 < cel σ 2 h 0
        · rw [if_pos q, if_pos q]; exact n0
        · rw [if_neg q, if_neg q]; exact n1
    by_cases q2 : cel σ 2 j 1 = -1
    · rw [if_pos q2, if_pos q2]; exact hmid
    rw [if_neg q2, if_neg q2]
    by_cases q3 : cel σ 2 j 1 ≤ x
    · rw [if_pos q3, if_neg (Int32.not_lt.mpr q3)]; exact n0
    · rw [if_neg q3, if_pos (Int32.not_le.mp q3)]; exact hmid
theorem bounds_ag {σ τ : CS} (hW : WC σ) (hP : IRin σ τ) (x : Int32) : ∃ r, f_Ground_boundsOn x σ = some (r, σ) ∧ f_M_boundsOf x τ = some (r, τ) ∧ (r = -1 ∨ Ix r (rws σ 2)) := by
  have h40 : rws σ 2 ≤ 12 := hW.hlim (t := 2) (by omega)
  exact bnd_loop hW hP x (rws σ 2) 0 FU FU (-1) (by omega) (lt_FU (by omega)) (lt_FU (by omega)) (Or.inl rfl)
theorem pm_bounds {σ τ : CS} (hW : WC σ) (hP : IRin σ τ) (a0 : Int32) : AgX (f_FC_bounds a0 σ) (f_M_bounds a0 τ) (fun c0 => c0 = 0 ∨ c0 = 1) (fun c0 => (if c0 = 0 then (0 : Int32) else 1)) (JRin σ τ) := by
  unfold f_FC_bounds f_M_bounds
  simp only [fc_isDay, fm_isDay, bnd_s]
  by_cases q0 : a0 < 0 ∨ 100000 < a0
  · simp only [if_pos q0, if_true, B_M_bounds_18, fm_bad1, bnd_s, if_neg i10]
    exact AgX.mk 1 0 σ 0 _ rfl (Or.inr rfl) rfl rfl (fun z => absurd z (by decide)) (Jg.thr2 hW IRin.thr hP (by decide) _ _)
  · obtain ⟨r, h1, h2, -⟩ := bounds_ag hW (IRin.thr τ 0 hP) a0
    simp only [if_neg q0, if_true, B_M_bounds_18, fm_bad0, bnd_s, if_neg i10, h1, h2]
    exact AgX.mk 0 _ σ _ _ rfl (Or.inl rfl) rfl rfl (fun _ => rfl) (Jg.thr hW IRin.thr hP (by decide) _)
