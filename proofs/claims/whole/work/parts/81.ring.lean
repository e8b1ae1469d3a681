/-! ===== layer 2: ring ===== -/
theorem tb_cut {σ : CS} (hW : WC σ) (t : Nat) (ht : t < 16) {k : Nat} (hk : k ≤ rws σ t) : ∃ σ', f_Table_cut t (nI k) σ = some (0, σ') ∧ WC σ' ∧ rws σ' t = k ∧ FrC [3 * t + 2] [] σ σ' := by
  have h4 := hW.hr4 ht
  unfold f_Table_cut
  rw [if_neg (nI_pos (by omega)), hW.hrow ht]
  by_cases q : rws σ t ≤ k
  · rw [if_pos (nI_le q (by omega))]
    exact ⟨σ, rfl, hW, by omega, FrC.refl _ _ _⟩
  · rw [if_neg (nI_ge (by omega) (by omega))]
    refine ⟨_, rfl, ?_, sF_rws (by omega), FrC.f1 _ _ (by simp)⟩
    intro u hu
    obtain ⟨a1, a2, a3, a4, k', a5, a6, a7⟩ := hW u hu
    by_cases qu : u = t
    · subst qu
      have e := sF_rws (σ := σ) (t := u) (r := k) (by omega)
      refine ⟨?_, ?_, ?_, by rw [e]; omega, k', a5, a6, by rw [e]; omega⟩
      · show va_up σ.1 (3 * u + 2) _ (3 * u) = _
        rw [va_up_ne _ _ (by omega)]; exact a1
      · show va_up σ.1 (3 * u + 2) _ (3 * u + 1) = _
        rw [va_up_ne _ _ (by omega)]; exact a2
      · rw [e]
        show va_up σ.1 (3 * u + 2) _ (3 * u + 2) = _
        rw [va_up_self]
    · have e : rws (sF σ (3 * t + 2) (nI k)) u = rws σ u := by
        unfold rws
        show (va_up σ.1 (3 * t + 2) _ (3 * u + 2)).toNatClampNeg = _
        rw [va_up_ne _ _ (by omega)]
      refine ⟨?_, ?_, ?_, by rw [e]; exact a4, k', a5, a6, by rw [e]; exact a7⟩
      · show va_up σ.1 (3 * t + 2) _ (3 * u) = _
        rw [va_up_ne _ _ (by omega)]; exact a1
      · show va_up σ.1 (3 * t + 2) _ (3 * u + 1) = _
        rw [va_up_ne _ _ (by omega)]; exact a2
      · rw [e]
        show va_up σ.1 (3 * t + 2) _ (3 * u + 2) = _
        rw [va_up_ne _ _ (by omega)]; exact a3
theorem and255 (x : Int32) : ∃ j : Nat, j ≤ 255 ∧ x &&& 255 = nI j := by
  have h1 : (x &&& 255).toBitVec = x.toBitVec &&& 255#32 := Int32.toBitVec_and ..
  have h2 : (x.toBitVec &&& 255#32).toNat ≤ 255 := by
    rw [BitVec.toNat_and]
    exact Nat.and_le_right
  refine ⟨(x.toBitVec &&& 255#32).toNat, h2, ?_⟩
  apply Int32.toBitVec_inj.mp
  rw [h1]
  show _ = BitVec.ofNat 32 _
  rw [BitVec.ofNat_toNat, BitVec.setWidth_eq]
/-- the k-th byte as a number -/
def byN (τ : CS) (k : Nat) : Nat := (τ.2.1 6 k &&& 255).toNatClampNeg
theorem byN_eq (τ : CS) (k : Nat) : τ.2.1 6 k &&& 255 = nI (byN τ k) ∧ byN τ k ≤ 255 := by
  obtain ⟨j, h1, h2⟩ := and255 (τ.2.1 6 k)
  unfold byN
  rw [h2, nI_clamp (by omega)]
  exact ⟨rfl, h1⟩
theorem WC.of {σ σ' : CS} (hW : WC σ) (h1 : ∀ k, k < 48 → σ'.1 k = σ.1 k) (h2 : ∀ t, t < 16 → σ'.2.2 t = σ.2.2 t) : WC σ' := by
  intro t ht
  obtain ⟨a1, a2, a3, a4, k, a5, a6, a7⟩ := hW t ht
  have e : rws σ' t = rws σ t := by unfold rws; rw [h1 _ (by omega)]
  exact ⟨by rw [h1 _ (by omega)]; exact a1, by rw [h1 _ (by omega)]; exact a2, by rw [h1 _ (by omega), e]; exact a3, by rw [e]; exact a4, k, by rw [h2 t ht]; exact a5, a6, by rw [e]; exact a7⟩
/-- both load the row -/
theorem ring_load {σ0 τ0 : CS} (hW : WC σ0) {n : Nat} (hn : n ≤ 10) (hT : ∀ k, k < n → cel σ0 0 k 0 = nI (byN τ0 k)) (hn0 : n ≤ rws σ0 0) (h2 : τ0.1 2 = nI (rws σ0 1)) (day : Int32) (K : Int32 → Int32 → CS → Option (Int32 × CS)) (K' : Int32 → Int32 → CS → Option (Int32 × CS)) : ∀ (d k m m' : Nat) (σ τ : CS), k + d = n → d < m → d < m' → FrC [] [16] σ0 σ → FrM [] [8] τ0 τ → (∀ i, i < k → σ.2.1 16 i = nI (byN τ0 i) ∧ τ.2.1 8 i = nI (byN τ0 i) ∧ byN τ0 i < rws σ0 1) →
    ∃ σ' τ', FrC [] [16] σ0 σ' ∧ FrM [] [8] τ0 τ' ∧ ((L_Ground_addRing_34 K day (nI n) m (nI k) σ = some (-3, σ') ∧ L_M_ring_75 K' day (nI n) m' (nI k) τ = some (-3, τ')) ∨
      (L_Ground_addRing_34 K day (nI n) m (nI k) σ = K day (nI n) σ' ∧ L_M_ring_75 K' day (nI n) m' (nI k) τ = K' day (nI n) τ' ∧ ∀ i, i < n → σ'.2.1 16 i = nI (byN τ0 i) ∧ τ'.2.1 8 i = nI (byN τ0 i) ∧ byN τ0 i < rws σ0 1)) := by
  have h40 : rws σ0 1 ≤ 40 := hW.hlim (t := 1) (by omega)
  intro d
  induction d with
  | zero =>
    intro k m m' σ τ h3 h4 h5 f1 f2 h6
    obtain ⟨m, rfl⟩ : ∃ q, m = q + 1 := ⟨m - 1, by omega⟩
    obtain ⟨m', rfl⟩ : ∃ q, m' = q + 1 := ⟨m' - 1, by omega⟩
    refine ⟨σ, τ, f1, f2, Or.inr ⟨?_, ?_, fun i hi => h6 i (by omega)⟩⟩
    · show (if nI n ≤ nI k then _ else _) = _
      rw [if_pos (nI_le (by omega) (by omega))]
    · show (if nI n ≤ nI k then _ else _) = _
      rw [if_pos (nI_le (by omega) (by omega))]
  | succ d ih =>
    intro k m m' σ τ h3 h4 h5 f1 f2 h6
    obtain ⟨m, rfl⟩ : ∃ q, m = q + 1 := ⟨m - 1, by omega⟩
    obtain ⟨m', rfl⟩ : ∃ q, m' = q + 1 := ⟨m' - 1, by omega⟩
    have hWs : WC σ := hW.of (fun j _ => f1.1 j (by simp)) (fun t ht => (f1.2 t (by simp; omega)).2)
    have er : ∀ t, rws σ t = rws σ0 t := fun t => f1.fr (by simp)
    have hb := byN_eq τ0 k
    have ec : cel σ 0 k 0 = nI (byN τ0 k) := by rw [f1.fc (by decide)]; exact hT k (by omega)
    have fC : FrC [] [16] σ0 (sA σ 16 (upd (σ.2.1 16) k (nI (byN τ0 k)))) := f1.trans (FrC.f2 _ _ (by decide))
    have fM : FrM [] [8] τ0 (sA τ 8 (upd (τ.2.1 8) k (nI (byN τ0 k)))) := f2.trans (FrM.f2 _ _ (by decide))
    have hWs2 : WC (sA σ 16 (upd (σ.2.1 16) k (nI (byN τ0 k)))) := hWs
    have eC : L_Ground_addRing_34 K day (nI n) (m + 1) (nI k) σ = bnd (f_Table_has 1 (nI (byN τ0 k)) (sA σ 16 (upd (σ.2.1 16) k (nI (byN τ0 k))))) (fun r75 σ75 => if r75 = 0 then some ((-3), σ75) else (L_Ground_addRing_34 K day (nI n) m) (nI (k + 1)) σ75) := by
      show (if nI n ≤ nI k then _ else _) = _
      rw [if_neg (nI_ge (by omega) (by omega)), if_neg (fun z => absurd ((lit_le 10 (by omega) (by omega)).mp z) (by omega)), tb_gl hWs 0 (by omega) k 0 (by rw [er]; omega) (by decide), bnd_s, gix_n (by omega) (by omega), gix_n (by omega) (by omega), ec, wrn (by omega), rdn (by omega), nI_1]
      simp only [va_up, reduceIte, upd]
    have eM : L_M_ring_75 K' day (nI n) (m' + 1) (nI k) τ = if nI (byN τ0 k) < nI (rws σ0 1) then (L_M_ring_75 K' day (nI n) m') (nI (k + 1)) (sA τ 8 (upd (τ.2.1 8) k (nI (byN τ0 k)))) else some ((-3), (sA τ 8 (upd (τ.2.1 8) k (nI (byN τ0 k))))) := by
      show (if nI n ≤ nI k then _ else _) = _
      rw [if_neg (nI_ge (by omega) (by omega)), gix_n (by omega) (by omega), gix_n (by omega) (by omega), gix_n (by omega) (by omega), rdn (by omega) τ 6, f2.2 6 (by decide), hb.1, wrn (by omega), rdn (by omega), f2.1 2 (by decide), h2, nI_1]
      simp only [va_up, reduceIte, upd]
    rw [eC, eM, tb_has hWs2 1 (by omega) _ (by omega), bnd_s]
    have er1 : rws (sA σ 16 (upd (σ.2.1 16) k (nI (byN τ0 k)))) 1 = rws σ0 1 := er 1
    rw [er1]
    by_cases q : byN τ0 k < rws σ0 1
    · rw [if_pos q, if_neg i10, if_pos (nI_lt q (by omega))]
      refine ih (k + 1) m m' _ _ (by omega) (by omega) (by omega) fC fM (fun i hi => ?_)
      simp only [va_up, reduceIte, upd]
      by_cases r : i = k
      · subst r
        rw [if_pos rfl, if_pos rfl]
        exact ⟨rfl, rfl, q⟩
      · rw [if_neg r, if_neg r]
        exact h6 i (by omega)
    · rw [if_neg q, if_pos rfl, if_neg (nI_nlt (by omega) (by omega))]
      exact ⟨_, _, fC, fM, Or.inl ⟨rfl, rfl⟩⟩
theorem ring_put {σ0 : CS} {n : Nat} (hn : n ≤ 10) {R : Nat → Nat} : ∀ (d k m : Nat) (σ : CS) (row : Nat → Int32), k + d = n → d < m → App σ0 2 row σ → (∀ i, i < n → σ0.2.1 16 i = nI (R i)) → (∀ i, i < k → row (3 + i) = nI (R i)) →
    ∃ σ' row', L_Ground_addRing_135 (nI n) (nI (rws σ0 2)) m (nI k) σ = some (nI (rws σ0 2), σ') ∧ App σ0 2 row' σ' ∧ (∀ i, i < n → row' (3 + i) = nI (R i)) ∧ (∀ i, i < 3 → row' i = row i) := by
  intro d
  induction d with
  | zero =>
    intro k m σ row h1 h2 hA h3 h4
    obtain ⟨m, rfl⟩ : ∃ q, m = q + 1 := ⟨m - 1, by omega⟩
    refine ⟨σ, row, ?_, hA, fun i hi => h4 i (by omega), fun _ _ => rfl⟩
    show (if nI n ≤ nI k then _ else _) = _
    rw [if_pos (nI_le (by omega) (by omega))]
  | succ d ih =>
    intro k m σ row h1 h2 hA h3 h4
    obtain ⟨m, rfl⟩ : ∃ q, m = q + 1 := ⟨m - 1, by omega⟩
    obtain ⟨e1, A1⟩ := tb_putA hA (by omega) (3 + k) (by show 3 + k < 13; omega) (nI (R k)) (ci := 3 + nI k) (nI_add 3 k)
    have e : L_Ground_addRing_135 (nI n) (nI (rws σ0 2)) (m + 1) (nI k) σ = L_Ground_addRing_135 (nI n) (nI (rws σ0 2)) m (nI (k + 1)) (pt σ 2 (rws σ0 2) (3 + k) (nI (R k))) := by
      show (if nI n ≤ nI k then _ else _) = _
      rw [if_neg (nI_ge (by omega) (by omega)), if_neg (fun z => absurd ((lit_le 10 (by omega) (by omega)).mp z) (by omega)), gix_n (by omega) (by omega), rdn (by omega), (hA.2.2.2.1 16 (by omega)).1, h3 k (by omega), e1, bnd_s, nI_1]
    obtain ⟨σ', row', g1, g2, g3, g4⟩ := ih (k + 1) m _ _ (by omega) (by omega) A1 h3 (fun i hi => by
      unfold upd
      by_cases r : i = k
      · rw [if_pos (by omega), r]
      · rw [if_neg (by omega)]
        exact h4 i (by omega))
    refine ⟨σ', row', e.trans g1, g2, g3, fun i hi => ?_⟩
    rw [g4 i hi]
    unfold upd
    rw [if_neg (by omega)]
theorem ring_copy {n r : Nat} (hn : n ≤ 10) (hr : r < 12) {R : Nat → Nat} (day : Int32) (K : Int32 → Int32 → CS → Option (Int32 × CS)) : ∀ (d k m : Nat) (τ : CS), k + d = n → d < m → τ.1 10 = nI r → (∀ i, i < n → τ.2.1 8 i = nI (R i)) → (∀ i, i < k → τ.2.1 12 (10 * r + i) = nI (R i)) →
    ∃ τ', L_M_ring_130 K day (nI n) m (nI k) τ = K day (nI n) τ' ∧ FrM [] [12] τ τ' ∧ (∀ i, i < n → τ'.2.1 12 (10 * r + i) = nI (R i)) ∧ (∀ j, j < 10 * r → τ'.2.1 12 j = τ.2.1 12 j) := by
  intro d
  induction d with
  | zero =>
    intro k m τ h1 h2 h3 h4 h5
    obtain ⟨m, rfl⟩ : ∃ q, m = q + 1 := ⟨m - 1, by omega⟩
    refine ⟨τ, ?_, FrM.refl _ _ _, fun i hi => h5 i (by omega), fun _ _ => rfl⟩
    show (if nI n ≤ nI k then _ else _) = _
    rw [if_pos (nI_le (by omega) (by omega))]
  | succ d ih =>
    intro k m τ h1 h2 h3 h4 h5
    obtain ⟨m, rfl⟩ : ∃ q, m = q + 1 := ⟨m - 1, by omega⟩
    have e : L_M_ring_130 K day (nI n) (m + 1) (nI k) τ = L_M_ring_130 K day (nI n) m (nI (k + 1)) (sA τ 12 (upd (τ.2.1 12) (10 * r + k) (nI (R k)))) := by
      show (if nI n ≤ nI k then _ else _) = _
      rw [if_neg (nI_ge (by omega) (by omega)), gix_n (by omega) (by omega), h3, show (10 : Int32) = nI 10 from rfl, nI_mul, nI_add, gix_n (by omega) (by omega), rdn (by omega), h4 k (by omega), wrn (by omega), nI_1]
    obtain ⟨τ', g1, g2, g3, g4⟩ := ih (k + 1) m (sA τ 12 (upd (τ.2.1 12) (10 * r + k) (nI (R k)))) (by omega) (by omega) h3 (fun i hi => by
      simp only [va_up, reduceIte, Nat.reduceEqDiff]
      exact h4 i hi) (fun i hi => by
      simp only [va_up, reduceIte, upd]
      by_cases q : i = k
      · rw [if_pos (by omega), q]
      · rw [if_neg (by omega)]
        exact h5 i (by omega))
    refine ⟨τ', e.trans g1, (FrM.f2 _ _ (by decide)).trans g2, g3, fun j hj => ?_⟩
    rw [g4 j hj]
    simp only [va_up, reduceIte, upd]
    rw [if_neg (by omega)]
abbrev JRng (σ τ σ1 τ1 : CS) : Prop := WC σ1 ∧ IRin σ1 τ1 ∧ FrC [8] [2, 16] σ σ1 ∧ FrM [9, 10] [8, 12, 13, 14, 15] τ τ1
theorem ring_core {σ τ : CS} (hW : WC σ) (hM : IMar σ τ) (hP : IRin σ τ) {n : Nat} (hn : rws σ 0 = n) (hT : ∀ k, k < n → cel σ 0 k 0 = nI (byN τ k)) (day : Int32) (hday : Rg day 100000) (hr : rws σ 2 < 12) (hn3 : 3 ≤ n) (hn10 : n ≤ 10) :
    ∃ v σ1 τ1, L_Ground_addRing_34 B_Ground_addRing_90 day (nI n) FU (nI 0) σ = some (v, σ1) ∧ L_M_ring_75 B_M_ring_118 day (nI n) FU (nI 0) (sF τ 9 (nI n)) = some (v, τ1) ∧ JRng σ τ σ1 τ1 := by
  have hby : ∀ k, byN (sF τ 9 (nI n)) k = byN τ k := fun _ => rfl
  obtain ⟨σ1, τ1, f1, f2, hh⟩ := ring_load (τ0 := sF τ 9 (nI n)) hW hn10 hT (by omega) hM.1 day B_Ground_addRing_90 B_M_ring_118 n 0 FU FU σ (sF τ 9 (nI n)) (by omega) (lt_FU (by omega)) (lt_FU (by omega)) (FrC.refl _ _ _) (FrM.refl _ _ _) (fun i hi => absurd hi (by omega))
  have f2' : FrM [9, 10] [8, 12, 13, 14, 15] τ τ1 := (FrM.f1 _ _ (by decide)).trans (f2.mono (by simp) (by decide))
  have f1' : FrC [8] [2, 16] σ σ1 := f1.mono (by simp) (by decide)
  have hW1 : WC σ1 := hW.of (fun j _ => f1.1 j (by simp)) (fun t ht => (f1.2 t (by simp; omega)).2)
  have hP1 : IRin σ1 τ1 := by
    have a : FrM [9] [8] τ τ1 := (FrM.f1 _ _ (by decide)).trans (f2.mono (by simp) (by decide))
    exact hP.fr (Nat.le_of_eq (f1.fr (by simp)).symm) (f1.1 8 (by simp)) (f1.2 2 (by decide)).1 (f1.1 48 (by simp)) (a.1 10 (by decide)) (a.1 11 (by decide)) (a.2 12 (by decide)) (a.2 13 (by decide)) (a.2 14 (by decide)) (a.2 15 (by decide))
  have hM1 : IMar σ1 τ1 := by
    have a : FrM [9] [8] τ τ1 := (FrM.f1 _ _ (by decide)).trans (f2.mono (by simp) (by decide))
    exact hM.fr (f1.1 5 (by simp)) (f1.2 1 (by decide)).1 (a.1 2 (by decide)) (a.2 3 (by decide)) (a.2 4 (by decide)) (a.2 5 (by decide))
  have er1 : rws σ1 1 = rws σ 1 := f1.fr (by simp)
  have er2 : rws σ1 2 = rws σ 2 := f1.fr (by simp)
  rcases hh with ⟨g1, g2⟩ | ⟨g1, g2, g3⟩
  · exact ⟨-3, σ1, τ1, g1, g2, hW1, hP1, f1', f2'⟩
  · rw [g1, g2]
    unfold B_Ground_addRing_90 B_M_ring_118
    have hRC : RowC σ1 16 n (byN τ) := fun k hk => ⟨(g3 k hk).1, by rw [er1]; exact (g3 k hk).2.2⟩
    have h9 : τ1.1 9 = nI n := by rw [f2.1 9 (by simp)]; exact va_up_self τ.1 9 (nI n)
    have hRM : RowM σ1 τ1 n (byN τ) := ⟨h9, by omega, hn10, fun k hk => ⟨(g3 k hk).2.1, by rw [er1]; exact (g3 k hk).2.2⟩⟩
    have sC : Bo (f_Ground_isSimple (nI n) σ1) σ1 _ := simpleC_loop hW1 hM1.mok hRC hn3 hn10 n 0 FU (by omega) (lt_FU (by omega))
    have sM := simpleM (hRM.pol hW1 hM1) h9 hn10
    have sI := sim_iff σ1 (byN τ) n hn3
    have sC' : Bo (f_Ground_isSimple (nI n) σ1) σ1 (simM n (Xr σ1 n (byN τ)) (Yr σ1 n (byN τ))) := sC.iff ⟨fun z => sI.mp ⟨fun k hk => z.1 k (by omega) hk, z.2⟩, fun z => ⟨fun k _ hk => (sI.mpr z).1 k hk, (sI.mpr z).2⟩⟩
    rcases sC' with ⟨p, e1⟩ | ⟨p, e1⟩
    · rcases sM with ⟨p', e2⟩ | ⟨p', e2⟩
      · rw [e1, e2, bnd_s, bnd_s, if_neg i10, if_neg i10]
        obtain ⟨σ2, a1, A1⟩ := tb_add hW1 2 (by omega) (by rw [er2]; exact hr)
        obtain ⟨a2, A2⟩ := tb_putA A1 (by omega) 0 (by decide) day (ci := 0) rfl
        obtain ⟨a3, A3⟩ := tb_putA A2 (by omega) 2 (by decide) (nI n) (ci := 2) rfl
        rw [a1, bnd_s, a2, bnd_s, a3, bnd_s]
        obtain ⟨σ3, row', b1, b2, b3, b4⟩ := ring_put hn10 n 0 FU _ _ (by omega) (lt_FU (by omega)) A3 (fun i hi => (hRC i hi).1) (fun i hi => absurd hi (by omega))
        have er2' : τ1.1 10 = nI (rws σ1 2) := hP1.1
        obtain ⟨τ3, c1, c2, c3, c4⟩ := ring_copy hn10 (show rws σ1 2 < 12 by omega) day B_M_ring_161 n 0 FU τ1 (by omega) (lt_FU (by omega)) er2' (fun i hi => (hRM.2.2.2 i hi).1) (fun i hi => absurd hi (by omega))
        have e10 : τ3.1 10 = nI (rws σ1 2) := by rw [c2.1 10 (by simp)]; exact er2'
        have c1' : L_M_ring_130 B_M_ring_161 day (nI n) FU 0 τ1 = _ := c1
        have b1' : L_Ground_addRing_135 (nI n) (nI (rws σ1 2)) FU 0 _ = _ := b1
        rw [c1', b1']
        unfold B_M_ring_161
        simp only [e10, va_up, reduceIte, Nat.reduceEqDiff, gix_n (show rws σ1 2 < 12 by omega) (show 12 < 2147483648 by omega), wrn (show rws σ1 2 < 2147483648 by omega), nI_1, nI_p1]
        have frC : FrC [8] [2, 16] σ1 σ3 := b2.fr.mono (by decide) (by decide)
        refine ⟨nI (rws σ1 2), σ3, _, rfl, rfl, b2.1, ?_, f1'.trans frC, f2'.trans ((c2.mono (by simp) (by decide)).trans ((FrM.f2 _ _ (by decide)).trans ((FrM.f2 _ _ (by decide)).trans ((FrM.f2 _ _ (by decide)).trans (FrM.f1 _ _ (by decide))))))⟩
        have r1 : rws σ3 1 = rws σ1 1 := b2.fr.fr (by decide)
        obtain ⟨-, d2, d3, -, d5, d6⟩ := b2
        unfold IRin
        simp only [d2, r1, va_up, reduceIte, Nat.reduceEqDiff]
        refine ⟨trivial, ?_, ?_, fun r hr' => ?_⟩
        · rw [c2.1 11 (by simp), d3 48 (by omega)]; exact hP1.2.1
        · rw [d3 48 (by omega)]; exact hP1.2.2.1
        · by_cases qi : r = rws σ1 2
          · subst qi
            have q0 : row' 0 = day := by rw [b4 0 (by omega)]; rfl
            have q1 : row' 1 = -1 := by rw [b4 1 (by omega)]; rfl
            have q2 : row' 2 = nI n := by rw [b4 2 (by omega)]; rfl
            rw [d5 0 (by decide), d5 1 (by decide), d5 2 (by decide), q0, q1, q2]
            simp only [upd, reduceIte, true_and]
            refine ⟨hday, Or.inl rfl, n, hn3, hn10, rfl, fun k hk => ?_⟩
            rw [d5 (3 + k) (by show 3 + k < 13; omega), b3 k hk]
            exact ⟨c3 k hk, _, (hRC k hk).2, rfl⟩
          · have hr'' : r < rws σ1 2 := by omega
            rw [d6 r 0 hr'' (by decide), d6 r 1 hr'' (by decide), d6 r 2 hr'' (by decide)]
            simp only [upd, if_neg qi]
            rw [c2.2 13 (by decide), c2.2 14 (by decide), c2.2 15 (by decide)]
            obtain ⟨x1, x2, x3, x4, x5, n', x6, x7, x8, x9⟩ := hP1.2.2.2 r hr''
            refine ⟨x1, x2, x3, x4, x5, n', x6, x7, x8, fun k hk => ?_⟩
            rw [d6 r (3 + k) hr'' (by show 3 + k < 13; omega), c4 (10 * r + k) (by omega)]
            exact x9 k hk
      · exact absurd p p'
    · rcases sM with ⟨p', e2⟩ | ⟨p', e2⟩
      · exact absurd p' p
      · rw [e1, e2, bnd_s, bnd_s, if_pos rfl, if_pos rfl]
        exact ⟨-4, σ1, τ1, rfl, rfl, hW1, hP1, f1', f2'⟩
abbrev JRing (σ τ σ1 τ1 : CS) : Prop := WC σ1 ∧ ITap σ1 τ1 ∧ IRin σ1 τ1 ∧ FrC [2, 8] [2, 16] σ σ1 ∧ FrM [0, 7, 9, 10] [8, 12, 13, 14, 15] τ τ1
theorem pm_ring {σ τ : CS} (hW : WC σ) (hA : ITap σ τ) (hM : IMar σ τ) (hP : IRin σ τ) (a0 a1 : Int32) : AgX (f_FC_ring a0 a1 σ) (f_M_ring a0 a1 τ) (fun c0 => c0 = 0 ∨ c0 = 1) (fun c0 => (if c0 = 0 then (0 : Int32) else 1)) (JRing σ τ) := by
  have h400 : rws σ 0 ≤ 400 := hW.hlim (t := 0) (by omega)
  have h12 : rws σ 2 ≤ 12 := hW.hlim (t := 2) (by omega)
  have thr2 : ∀ c, JRing σ τ σ (sF (sF τ 0 0) 0 c) := fun c => ⟨hW, ITap.thr _ _ (ITap.thr _ _ hA), IRin.thr _ _ (IRin.thr _ _ hP), FrC.refl _ _ _, (FrM.f1 _ _ (by decide)).trans (FrM.f1 _ _ (by decide))⟩
  unfold f_FC_ring f_M_ring B_FC_ring_26
  simp only [fc_isDay, fm_isDay, bnd_s]
  by_cases q0 : a0 < 0 ∨ 100000 < a0
  · simp only [if_pos q0, if_true, B_FC_ring_27, B_M_ring_30, fm_bad1, bnd_s, if_neg i10]
    exact AgX.mk 1 0 σ 0 _ rfl (Or.inr rfl) rfl rfl (fun z => absurd z (by decide)) (thr2 _)
  simp only [if_neg q0, if_neg i10, tb_size hW 0 (by omega), bnd_s, fc_within, va_up, reduceIte, Nat.reduceEqDiff, hA.1]
  by_cases q1 : a1 < 0 ∨ nI (rws σ 0) < a1
  · have eM : (if a1 < 0 then B_M_ring_30 a0 a1 1 (sF τ 0 0) else if a1 ≤ nI (rws σ 0) then B_M_ring_30 a0 a1 0 (sF τ 0 0) else B_M_ring_30 a0 a1 1 (sF τ 0 0)) = B_M_ring_30 a0 a1 1 (sF τ 0 0) := by
      by_cases z : a1 < 0
      · rw [if_pos z]
      · rw [if_neg z, if_neg (Int32.not_le.mpr (q1.resolve_left z))]
    rw [eM]
    simp only [if_pos q1, if_true, B_FC_ring_27, B_M_ring_30, fm_bad1, bnd_s, if_neg i10]
    exact AgX.mk 1 0 σ 0 _ rfl (Or.inr rfl) rfl rfl (fun z => absurd z (by decide)) (thr2 _)
  rw [if_neg (fun z => q1 (Or.inl z)), if_pos (Int32.not_lt.mp (fun z => q1 (Or.inr z))), if_neg q1, if_neg i10]
  obtain ⟨n, hn, rfl⟩ := Rg.of q1 (n := rws σ 0) rfl (by omega) (by decide)
  obtain ⟨σ1, c1, c2, c3, c4⟩ := tb_cut hW 0 (by omega) hn
  have er2 : rws σ1 2 = rws σ 2 := c4.fr (by decide)
  have er1 : rws σ1 1 = rws σ 1 := c4.fr (by decide)
  -- the states behind the cut
  have hM1 : IMar σ1 (sF (sF τ 0 0) 7 0) := hM.fr (c4.1 5 (by decide)) (c4.2 1 (by decide)).1 rfl rfl rfl rfl
  have hP1 : IRin σ1 (sF (sF τ 0 0) 7 0) := hP.fr (Nat.le_of_eq er1.symm) (c4.1 8 (by decide)) (c4.2 2 (by decide)).1 (c4.1 48 (by decide)) rfl rfl rfl rfl rfl rfl
  have hT1 : ∀ k, k < n → cel σ1 0 k 0 = nI (byN (sF (sF τ 0 0) 7 0) k) := by
    intro k hk
    rw [c4.fc (by decide), hA.2 k (by omega)]
    exact (byN_eq τ k).1
  have z7 : FrM [0, 7, 9, 10] [8, 12, 13, 14, 15] τ (sF (sF τ 0 0) 7 0) := (FrM.f1 _ _ (by decide)).trans (FrM.f1 _ _ (by decide))
  -- the end: the tape is cut
  have fin : ∀ (v : Int32) (σ2 τ2 : CS), f_Ground_addRing a0 σ1 = some (v, σ2) → B_M_ring_30 a0 (nI n) 0 (sF τ 0 0) = some (v, τ2) → JRng σ1 (sF (sF τ 0 0) 7 0) σ2 τ2 → AgX (B_FC_ring_27 a0 (nI n) 1 σ) (B_M_ring_30 a0 (nI n) 0 (sF τ 0 0)) (fun c0 => c0 = 0 ∨ c0 = 1) (fun c0 => (if c0 = 0 then (0 : Int32) else 1)) (JRing σ τ) := by
    intro v σ2 τ2 g1 g2 ⟨w1, w2, w3, w4⟩
    obtain ⟨σ3, d1, d2, d3, d4⟩ := tb_cut w1 0 (by omega) (k := 0) (by omega)
    have d1' : f_Table_cut 0 0 σ2 = some (0, σ3) := d1
    have w4' : FrM [0, 7, 9, 10] [8, 12, 13, 14, 15] τ τ2 := z7.trans (w4.mono (by decide) (by decide))
    refine AgX.mk 0 v σ3 v τ2 ?_ (Or.inl rfl) g2 ?_ (fun _ => rfl) ⟨d2, ⟨?_, fun i hi => absurd hi (by rw [d3]; omega)⟩, ?_, ?_, w4'⟩
    · unfold B_FC_ring_27
      rw [if_neg i10, c1, bnd_s, g1, bnd_s, d1', bnd_s]
    · rw [w4.1 0 (by decide)]
      simp only [va_up, reduceIte, Nat.reduceEqDiff]
    · rw [d3, w4.1 7 (by decide)]
      simp only [va_up, reduceIte]
      rfl
    · exact w2.fr (Nat.le_of_eq (d4.fr (t := 1) (by decide)).symm) (d4.1 8 (by decide)) (d4.2 2 (by decide)).1 (d4.1 48 (by decide)) rfl rfl rfl rfl rfl rfl
    · exact (c4.mono (by decide) (by decide)).trans ((w3.mono (by decide) (by decide)).trans (d4.mono (by decide) (by decide)))
  have J0 : JRng σ1 (sF (sF τ 0 0) 7 0) σ1 (sF (sF τ 0 0) 7 0) := ⟨c2, hP1, FrC.refl _ _ _, FrM.refl _ _ _⟩
  have eS : f_Table_size 0 σ1 = some (nI n, σ1) := by rw [tb_size c2 0 (by omega), c3]
  by_cases q2 : rws σ 2 < lim 2
  · have q2' : rws σ 2 < 12 := q2
    have q2n : ¬ nI (rws σ 2) = 12 := fun z => (nI_full (n := 12) (L := 12) rfl h12 (by omega)).mp z q2'
    have eF : f_Table_isFull 2 σ1 = some (0, σ1) := by rw [tb_full c2 2 (by omega), er2, if_pos q2]
    have eM : B_M_ring_30 a0 (nI n) 0 (sF τ 0 0) = bnd (f_M_in (nI n) 3 10 (sF (sF τ 0 0) 7 0)) (fun r59 σ59 => if r59 = 0 then some ((-2), σ59) else L_M_ring_75 (B_M_ring_118) a0 (nI n) FU 0 (sF σ59 9 (nI n))) := by
      unfold B_M_ring_30
      rw [fm_bad0, bnd_s, if_pos rfl]
      simp only [va_up, reduceIte, Nat.reduceEqDiff, hP.1, if_neg q2n]
    by_cases q3 : 3 ≤ n ∧ n ≤ 10
    · obtain ⟨v, σ2, τ2, g1, g2, g3⟩ := ring_core c2 hM1 hP1 c3 hT1 a0 (Rg.of q0 (n := 100000) rfl (by omega) (by decide)) (by rw [er2]; exact q2') q3.1 q3.2
      refine fin v σ2 τ2 ?_ ?_ g3
      · unfold f_Ground_addRing
        rw [eS, bnd_s, eF, bnd_s, if_pos rfl, if_neg (fun z => absurd ((lt_lit 3 (by omega) (by omega)).mp z) (by omega)), if_pos ((le_lit 10 (by omega) (by omega)).mpr q3.2)]
        exact g1
      · rw [eM, fm_in, if_neg (by
          rintro (z | z)
          · exact absurd ((lt_lit 3 (by omega) (by omega)).mp z) (by omega)
          · exact absurd ((lit_lt 10 (by omega) (by omega)).mp z) (by omega)), bnd_s, if_neg i10]
        exact g2
    · refine fin (-2) σ1 (sF (sF τ 0 0) 7 0) ?_ ?_ J0
      · unfold f_Ground_addRing
        rw [eS, bnd_s, eF, bnd_s, if_pos rfl]
        by_cases z : n < 3
        · rw [if_pos ((lt_lit 3 (by omega) (by omega)).mpr z)]
        · rw [if_neg (fun y => z ((lt_lit 3 (by omega) (by omega)).mp y)), if_neg (fun y => absurd ((le_lit 10 (by omega) (by omega)).mp y) (by omega))]
      · rw [eM, fm_in, if_pos (by
          by_cases z : n < 3
          · exact Or.inl ((lt_lit 3 (by omega) (by omega)).mpr z)
          · exact Or.inr ((lit_lt 10 (by omega) (by omega)).mpr (by omega))), bnd_s, if_pos rfl]
  · have q2' : ¬ rws σ 2 < 12 := q2
    have eF : f_Table_isFull 2 σ1 = some (1, σ1) := by rw [tb_full c2 2 (by omega), er2, if_neg q2]
    refine fin (-1) σ1 (sF (sF τ 0 0) 7 0) ?_ ?_ J0
    · unfold f_Ground_addRing
      rw [eS, bnd_s, eF, bnd_s, if_neg i10]
    · unfold B_M_ring_30
      rw [fm_bad0, bnd_s, if_pos rfl]
      simp only [va_up, reduceIte, Nat.reduceEqDiff, hP.1, if_pos ((nI_full (n := 12) (L := 12) rfl h12 (by omega)).mpr q2')]
