/-! ===== layer 2: people ===== -/
def IPeo (σ τ : CS) : Prop := τ.1 38 = nI (rws σ 6) ∧ ∀ i, i < rws σ 6 →
  τ.2.1 40 i = cel σ 6 i 0 ∧ τ.2.1 41 i = cel σ 6 i 1 ∧ τ.2.1 43 i = cel σ 6 i 2 ∧ τ.2.1 42 i = cel σ 6 i 3 ∧
  Rg (cel σ 6 i 0) 3 ∧ Rg (cel σ 6 i 1) 1000000 ∧ Rn (cel σ 6 i 2) 100000 ∧ (cel σ 6 i 3 = -1 ∨ ∃ h, h < rws σ 6 ∧ cel σ 6 i 3 = nI h)
theorem w6 : wid 6 = 4 := rfl
theorem l6 : lim 6 = 40 := rfl
theorem Rn.neg {x : Int32} {n : Nat} (h : Rn x n) (hn : n < 2147483648) : x < 0 ↔ x = -1 := by
  rcases h with rfl | ⟨a, h1, rfl⟩
  · exact ⟨fun _ => rfl, fun _ => by decide⟩
  · exact ⟨fun z => absurd z (nI_pos (by omega)), fun z => absurd z (nI_neg1 (by omega))⟩
theorem lives_c {σ : CS} (hW : WC σ) {i : Nat} (hi : i < rws σ 6) : f_People_lives (nI i) σ = some (if cel σ 6 i 2 = -1 then 1 else 0, σ) := by
  unfold f_People_lives
  rw [tb_has1 hW 6 (by omega) hi, bnd_s, if_neg i10, tb_gl hW 6 (by omega) i 2 hi (by decide), bnd_s]
  by_cases q : cel σ 6 i 2 = -1
  · rw [if_pos q, if_pos q]
  · rw [if_neg q, if_neg q]
theorem dead_m {σ τ : CS} (hW : WC σ) (hP : IPeo σ τ) {i : Nat} (hi : i < rws σ 6) : f_M_isDead (nI i) τ = some (if cel σ 6 i 2 = -1 then 0 else 1, τ) := by
  have h40 := hW.hlim (t := 6) (by omega)
  rw [l6] at h40
  obtain ⟨-, -, h3, -, -, -, h7, -⟩ := hP.2 i hi
  unfold f_M_isDead
  rw [gix_n (by omega) (by omega)]
  show (if τ.2.1 43 (nI i).toNatClampNeg < 0 then _ else _) = _
  rw [nI_clamp (by omega), h3]
  by_cases q : cel σ 6 i 2 = -1
  · rw [if_pos ((h7.neg (by omega)).mpr q), if_pos q]
  · rw [if_neg (fun z => q ((h7.neg (by omega)).mp z)), if_neg q]
theorem pig : ∀ (m : Nat) (f : Nat → Nat) (n : Nat), m < n → (∀ i, i < n → f i < m) → ∃ i j, i < j ∧ j < n ∧ f i = f j := by
  intro m
  induction m with
  | zero => intro f n h1 h2; exact absurd (h2 0 h1) (by omega)
  | succ m ih =>
    intro f n h1 h2
    by_cases q : ∃ i, i < n - 1 ∧ f i = f (n - 1)
    · obtain ⟨i, q1, q2⟩ := q
      exact ⟨i, n - 1, q1, by omega, q2⟩
    · have hne : ∀ i, i < n - 1 → f i ≠ f (n - 1) := fun i hi z => q ⟨i, hi, z⟩
      have hl := h2 (n - 1) (by omega)
      obtain ⟨i, j, a1, a2, a3⟩ := ih (fun i => if f (n - 1) < f i then f i - 1 else f i) (n - 1) (by omega) (fun i hi => by
        have b1 := h2 i (by omega)
        have b2 := hne i hi
        show (if f (n - 1) < f i then f i - 1 else f i) < m
        split <;> omega)
      refine ⟨i, j, a1, by omega, ?_⟩
      have b1 := hne i (by omega)
      have b2 := hne j a2
      have a4 : (if f (n - 1) < f i then f i - 1 else f i) = (if f (n - 1) < f j then f j - 1 else f j) := a3
      split at a4 <;> split at a4 <;> omega
def itr (H : Nat → Nat) (p : Nat) : Nat → Nat
  | 0 => p
  | k + 1 => H (itr H p k)
theorem itr_shift (H : Nat → Nat) (p a b : Nat) (h : itr H p a = itr H p b) : ∀ t, itr H p (a + t) = itr H p (b + t) := by
  intro t
  induction t with
  | zero => exact h
  | succ t ih => show H _ = H _; rw [show a.add t = a + t from rfl, show b.add t = b + t from rfl, ih]
def hNx (σ : CS) (i : Nat) : Nat := (cel σ 6 i 3).toNatClampNeg
theorem heir_loop {σ τ : CS} (hW : WC σ) (hP : IPeo σ τ) {p : Nat} (hp : p < rws σ 6) : ∀ (d k m m' : Nat), k + d = rws σ 6 → d < m → d + 1 < m' →
    (∀ i, i ≤ k → itr (hNx σ) p i < rws σ 6 ∧ (1 ≤ i → itr (hNx σ) p i ≠ p ∧ ¬ cel σ 6 (itr (hNx σ) p i) 2 = -1)) →
    ∃ r, L_People_heirOf_4 (nI p) m (nI (itr (hNx σ) p k)) (nI k) σ = some (r, σ) ∧ L_M_owes_9 (nI p) m' (cel σ 6 (itr (hNx σ) p k) 3) (nI k) τ = some (r, τ) ∧ (r = -1 ∨ ∃ h, h < rws σ 6 ∧ r = nI h ∧ h ≠ p ∧ cel σ 6 h 2 = -1) := by
  have h40 := hW.hlim (t := 6) (by omega)
  rw [l6] at h40
  intro d
  induction d with
  | zero =>
    intro k m m' h1 h2 h3 h4
    obtain ⟨m, rfl⟩ : ∃ q, m = q + 1 := ⟨m - 1, by omega⟩
    obtain ⟨m', rfl⟩ : ∃ q, m' = q + 2 := ⟨m' - 2, by omega⟩
    have hk : k = rws σ 6 := by omega
    refine ⟨-1, ?_, ?_, Or.inl rfl⟩
    · show bnd (f_Table_size 6 σ) _ = _
      rw [tb_size hW 6 (by omega), bnd_s, if_pos (nI_le (by omega) (by omega))]
    · have hs := (h4 k (Nat.le_refl _)).1
      obtain ⟨-, -, -, e4, -, -, -, h8⟩ := hP.2 _ hs
      show (if (τ.1 38) < nI k then _ else _) = _
      rw [hP.1, if_neg (nI_nlt (by omega) (by omega))]
      rcases h8 with h8 | ⟨h, h8, h9⟩
      · rw [h8, if_pos (by decide)]
      · rw [h9, if_neg (nI_pos (by omega))]
        by_cases q : nI h = nI p
        · rw [if_pos q]
        · rw [if_neg q, dead_m hW hP h8, bnd_s]
          have e : itr (hNx σ) p (k + 1) = h := by
            show (cel σ 6 (itr (hNx σ) p k) 3).toNatClampNeg = h
            rw [h9, nI_clamp (by omega)]
          obtain ⟨i, j, a1, a2, a3⟩ := pig (rws σ 6) (itr (hNx σ) p) (k + 1) (by omega) (fun i hi => (h4 i (by omega)).1)
          have hi1 : 1 ≤ i := by
            rcases Nat.eq_zero_or_pos i with z | z
            · subst z
              exact absurd a3.symm ((h4 j (by omega)).2 (by omega)).1
            · exact z
          have e2 := itr_shift (hNx σ) p i j a3 (k + 1 - j)
          rw [show j + (k + 1 - j) = k + 1 by omega, e] at e2
          have hd := ((h4 (i + (k + 1 - j)) (by omega)).2 (by omega)).2
          rw [e2] at hd
          rw [if_neg hd, if_neg i10, gix_n (by omega) (by omega), nI_1]
          show (if (τ.1 38) < nI (k + 1) then _ else _) = _
          rw [hP.1, if_pos (nI_lt (by omega) (by omega))]
  | succ d ih =>
    intro k m m' h1 h2 h3 h4
    obtain ⟨m, rfl⟩ : ∃ q, m = q + 1 := ⟨m - 1, by omega⟩
    obtain ⟨m', rfl⟩ : ∃ q, m' = q + 1 := ⟨m' - 1, by omega⟩
    have hs := (h4 k (Nat.le_refl _)).1
    obtain ⟨-, -, -, e4, -, -, -, h8⟩ := hP.2 _ hs
    have c1 : L_People_heirOf_4 (nI p) (m + 1) (nI (itr (hNx σ) p k)) (nI k) σ = if cel σ 6 (itr (hNx σ) p k) 3 = nI p then some (-1, σ) else if cel σ 6 (itr (hNx σ) p k) 3 = -1 then some (cel σ 6 (itr (hNx σ) p k) 3, σ) else bnd (f_People_lives (cel σ 6 (itr (hNx σ) p k) 3) σ) (fun r39 σ39 => if r39 = 0 then (L_People_heirOf_4 (nI p) m) (cel σ 6 (itr (hNx σ) p k) 3) (nI k + 1) σ39 else some (cel σ 6 (itr (hNx σ) p k) 3, σ39)) := by
      show bnd (f_Table_size 6 σ) _ = _
      rw [tb_size hW 6 (by omega), bnd_s, if_neg (nI_ge (by omega) (by omega)), tb_gl hW 6 (by omega) _ 3 hs (by decide), bnd_s]
    have c2 : L_M_owes_9 (nI p) (m' + 1) (cel σ 6 (itr (hNx σ) p k) 3) (nI k) τ = if cel σ 6 (itr (hNx σ) p k) 3 < 0 then some (-1, τ) else if cel σ 6 (itr (hNx σ) p k) 3 = nI p then some (-1, τ) else bnd (f_M_isDead (cel σ 6 (itr (hNx σ) p k) 3) τ) (fun r30 σ30 => if r30 = 0 then some (cel σ 6 (itr (hNx σ) p k) 3, σ30) else gix (cel σ 6 (itr (hNx σ) p k) 3) 40 ((L_M_owes_9 (nI p) m') (rd σ30 42 (cel σ 6 (itr (hNx σ) p k) 3)) (nI k + 1) σ30)) := by
      show (if (τ.1 38) < nI k then _ else _) = _
      rw [hP.1, if_neg (nI_nlt (by omega) (by omega))]
    rw [c1, c2]
    rcases h8 with h8 | ⟨h, h8, h9⟩
    · refine ⟨-1, ?_, ?_, Or.inl rfl⟩
      · rw [h8, if_neg (nI_neg1' (by omega)), if_pos rfl]
      · rw [h8, if_pos (by decide)]
    · rw [h9]
      by_cases q : nI h = nI p
      · refine ⟨-1, ?_, ?_, Or.inl rfl⟩
        · rw [if_pos q]
        · rw [if_neg (nI_pos (by omega)), if_pos q]
      · have qn : h ≠ p := fun z => q (by rw [z])
        rw [if_neg q, if_neg (nI_neg1 (by omega)), if_neg (nI_pos (by omega)), if_neg q, lives_c hW h8, dead_m hW hP h8, bnd_s, bnd_s]
        by_cases ql : cel σ 6 h 2 = -1
        · refine ⟨nI h, ?_, ?_, Or.inr ⟨h, h8, rfl, qn, ql⟩⟩
          · rw [if_pos ql, if_neg i10]
          · rw [if_pos ql, if_pos rfl]
        · have e : itr (hNx σ) p (k + 1) = h := by
            show (cel σ 6 (itr (hNx σ) p k) 3).toNatClampNeg = h
            rw [h9, nI_clamp (by omega)]
          have h5 := ih (k + 1) m m' (by omega) (by omega) (by omega) (fun i hi => by
            by_cases z : i ≤ k
            · exact h4 i z
            · have : i = k + 1 := by omega
              subst this
              rw [e]
              exact ⟨h8, fun _ => ⟨qn, ql⟩⟩)
          rw [e] at h5
          rw [if_neg ql, if_pos rfl, if_neg ql, if_neg i10, gix_n (by omega) (by omega), nI_1]
          have e5 : rd τ 42 (nI h) = cel σ 6 h 3 := by
            show τ.2.1 42 (nI h).toNatClampNeg = _
            rw [nI_clamp (by omega)]
            exact (hP.2 h h8).2.2.2.1
          rw [e5]
          exact h5
theorem heir_ag {σ τ : CS} (hW : WC σ) (hP : IPeo σ τ) {p : Nat} (hp : p < rws σ 6) :
    ∃ r, f_People_heirOf (nI p) σ = some (r, σ) ∧ f_M_owes (nI p) τ = some (r, τ) ∧ (r = -1 ∨ ∃ h, h < rws σ 6 ∧ r = nI h ∧ h ≠ p ∧ cel σ 6 h 2 = -1) := by
  have h40 := hW.hlim (t := 6) (by omega)
  rw [l6] at h40
  obtain ⟨r, h1, h2, h3⟩ := heir_loop hW hP hp (rws σ 6) 0 FU FU (by omega) (lt_FU (by omega)) (lt_FU (by omega)) (fun i hi => by
    have : i = 0 := by omega
    subst this
    exact ⟨hp, fun z => absurd z (by omega)⟩)
  refine ⟨r, h1, ?_, h3⟩
  unfold f_M_owes
  rw [gix_n (by omega) (by omega)]
  have e5 : rd τ 42 (nI p) = cel σ 6 p 3 := by
    show τ.2.1 42 (nI p).toNatClampNeg = _
    rw [nI_clamp (by omega)]
    exact (hP.2 p hp).2.2.2.1
  rw [e5]
  exact h2
/-- what a call that may throw owes, with the ties named -/
def AgX (F : Option ((Int32 × Int32) × CS)) (G : Option (Int32 × CS)) (cs : Int32 → Prop) (kk : Int32 → Int32) (J : CS → CS → Prop) : Prop := ∃ c0 v0 σ1 b0 τ1, F = some ((c0, v0), σ1) ∧ cs c0 ∧ G = some (b0, τ1) ∧ τ1.1 0 = kk c0 ∧ (c0 = 0 → v0 = b0) ∧ J σ1 τ1
theorem AgX.mk {F : Option ((Int32 × Int32) × CS)} {G : Option (Int32 × CS)} {cs : Int32 → Prop} {kk : Int32 → Int32} {J : CS → CS → Prop} (c0 v0 : Int32) (σ1 : CS) (b0 : Int32) (τ1 : CS) (h1 : F = some ((c0, v0), σ1)) (h2 : cs c0) (h3 : G = some (b0, τ1)) (h4 : τ1.1 0 = kk c0) (h5 : c0 = 0 → v0 = b0) (h6 : J σ1 τ1) : AgX F G cs kk J := ⟨c0, v0, σ1, b0, τ1, h1, h2, h3, h4, h5, h6⟩
theorem isPer_m {σ τ : CS} (hW : WC σ) (h38 : τ.1 38 = nI (rws σ 6)) {j : Nat} (hj : j < rws σ 6) : f_M_isPerson (nI j) τ = some (1, τ) := by
  have := hW.hr4 (t := 6) (by omega)
  unfold f_M_isPerson
  rw [h38, fm_idx1 hj (by omega), bnd_s, grd_s (Or.inr rfl)]
theorem isPer_m0 {σ τ : CS} (hW : WC σ) (h38 : τ.1 38 = nI (rws σ 6)) {x : Int32} (hj : ¬ ∃ j, j < rws σ 6 ∧ x = nI j) : f_M_isPerson x τ = some (0, τ) := by
  have := hW.hr4 (t := 6) (by omega)
  unfold f_M_isPerson
  rw [h38, fm_idx0 (by omega) hj, bnd_s, grd_s (Or.inl rfl)]
theorem thr_1 (τ : CS) (c : Int32) : (sF τ 0 c).1 0 = c := va_up_self τ.1 0 c
theorem IPeo.fr {σ τ σ' τ' : CS} (h : IPeo σ τ) (e1 : σ'.1 20 = σ.1 20) (e2 : σ'.2.1 6 = σ.2.1 6) (e3 : τ'.1 38 = τ.1 38) (e4 : τ'.2.1 40 = τ.2.1 40) (e5 : τ'.2.1 41 = τ.2.1 41) (e6 : τ'.2.1 42 = τ.2.1 42) (e7 : τ'.2.1 43 = τ.2.1 43) : IPeo σ' τ' := by
  have r : rws σ' 6 = rws σ 6 := by unfold rws; rw [show 3 * 6 + 2 = 20 from rfl, e1]
  have c : ∀ i c, cel σ' 6 i c = cel σ 6 i c := fun i c => by unfold cel; rw [e2]
  unfold IPeo
  simp only [r, c, e3, e4, e5, e6, e7]
  exact h
theorem IPeo.thr {σ τ : CS} (h : IPeo σ τ) (c : Int32) : IPeo σ (sF τ 0 c) := h.fr rfl rfl rfl rfl rfl rfl rfl
abbrev JPeo (σ τ σ1 τ1 : CS) : Prop := WC σ1 ∧ IPeo σ1 τ1 ∧ FrC [20] [6] σ σ1 ∧ FrM [0, 38] [40, 41, 42, 43] τ τ1 ∧ rws σ 6 ≤ rws σ1 6
theorem JPeo.thr {σ τ : CS} (hW : WC σ) (hP : IPeo σ τ) (c : Int32) : JPeo σ τ σ (sF τ 0 c) := ⟨hW, hP.thr c, FrC.refl _ _ _, FrM.f1 _ _ (by decide), Nat.le_refl _⟩
theorem JPeo.thr2 {σ τ : CS} (hW : WC σ) (hP : IPeo σ τ) (c d : Int32) : JPeo σ τ σ (sF (sF τ 0 c) 0 d) := ⟨hW, (hP.thr c).thr d, FrC.refl _ _ _, (FrM.f1 _ _ (by decide)).trans (FrM.f1 _ _ (by decide)), Nat.le_refl _⟩
theorem pm_person {σ τ : CS} (hW : WC σ) (hP : IPeo σ τ) (a0 a1 : Int32) : AgX (f_FC_person a0 a1 σ) (f_M_person a0 a1 τ) (fun c0 => c0 = 0 ∨ c0 = 1 ∨ c0 = 2) (fun c0 => (if c0 = 0 then (0 : Int32) else if c0 = 1 then 1 else 2)) (JPeo σ τ) := by
  have h40 := hW.hlim (t := 6) (by omega)
  rw [l6] at h40
  unfold f_FC_person f_M_person B_FC_person_23
  simp only [fc_within, fm_in, bnd_s]
  by_cases q0 : a0 < 0 ∨ 3 < a0
  · simp only [if_pos q0, if_true, B_FC_person_24, B_M_person_31, fm_bad1, bnd_s, if_neg i10]
    exact AgX.mk 1 0 σ 0 _ rfl (Or.inr (Or.inl rfl)) rfl rfl (fun z => absurd z (by decide)) (JPeo.thr2 hW hP _ _)
  simp only [if_neg q0, if_neg i10]
  by_cases q1 : a1 < 0 ∨ 1000000 < a1
  · simp only [if_pos q1, if_true, B_FC_person_24, B_M_person_31, fm_bad1, bnd_s, if_neg i10]
    exact AgX.mk 1 0 σ 0 _ rfl (Or.inr (Or.inl rfl)) rfl rfl (fun z => absurd z (by decide)) (JPeo.thr2 hW hP _ _)
  simp only [if_neg q1, if_neg i10, B_FC_person_24, B_M_person_31, fm_bad0, bnd_s, if_true, tb_full hW 6 (by omega), va_up, reduceIte, Nat.reduceEqDiff, hP.1]
  by_cases q2 : rws σ 6 < lim 6
  · have q2' := q2
    rw [l6] at q2'
    have q3 : ¬ nI (rws σ 6) = 40 := by
      intro z
      have := (nI_eq (b := 40) (by omega) (by omega)).mp z
      omega
    simp only [if_pos q2, if_true, if_neg q3, B_FC_person_45, if_neg i10, B_M_person_53, fm_bad0, bnd_s, va_up, reduceIte, Nat.reduceEqDiff, hP.1, gix_n q2' (show 40 < 2147483648 by omega)]
    obtain ⟨σ1, e1, A1⟩ := tb_add hW 6 (by omega) q2
    obtain ⟨e2, A2⟩ := tb_putA A1 (by omega) 0 (by decide) a0 (ci := 0) rfl
    obtain ⟨e3, A3⟩ := tb_putA A2 (by omega) 1 (by decide) a1 (ci := 1) rfl
    unfold f_People_addPerson
    simp only [e1, bnd_s, e2, e3]
    refine AgX.mk 0 (nI (rws σ 6)) _ _ _ rfl (Or.inl rfl) rfl rfl (fun _ => by rw [nI_1, nI_p1]) ⟨A3.1, ?_, A3.fr, ?_, by rw [A3.2.1]; omega⟩
    · obtain ⟨-, b2, -, -, b5, b6⟩ := A3
      refine ⟨?_, fun i hi => ?_⟩
      · rw [b2]
        simp only [va_up, reduceIte, nI_1]
      · rw [b2] at hi
        have k : (nI (rws σ 6)).toNatClampNeg = rws σ 6 := nI_clamp (by omega)
        simp only [va_up, upd, k]
        simp only [reduceIte, Nat.reduceEqDiff]
        by_cases qi : i = rws σ 6
        · subst qi
          rw [b5 0 (by decide), b5 1 (by decide), b5 2 (by decide), b5 3 (by decide)]
          simp only [upd, reduceIte, Nat.reduceEqDiff, true_and, true_or, and_true]
          exact ⟨Rg.of q0 rfl (by omega) (by decide), Rg.of q1 rfl (by omega) (by decide), Or.inl rfl⟩
        · have hi' : i < rws σ 6 := by omega
          rw [b6 i 0 hi' (by decide), b6 i 1 hi' (by decide), b6 i 2 hi' (by decide), b6 i 3 hi' (by decide)]
          simp only [upd, if_neg qi]
          obtain ⟨a1, a2, a3, a4, a5, a6, a7, a8⟩ := hP.2 i hi'
          refine ⟨a1, a2, a3, a4, a5, a6, a7, ?_⟩
          rcases a8 with a8 | ⟨h, a8, a9⟩
          · exact Or.inl a8
          · exact Or.inr ⟨h, by rw [b2]; omega, a9⟩
    · exact (FrM.f1 _ _ (by decide)).trans ((FrM.f2 _ _ (by decide)).trans ((FrM.f2 _ _ (by decide)).trans ((FrM.f2 _ _ (by decide)).trans ((FrM.f2 _ _ (by decide)).trans (FrM.f1 _ _ (by decide))))))
  · have q3 : nI (rws σ 6) = 40 := by
      rw [show rws σ 6 = 40 by rw [l6] at q2; omega]; rfl
    simp only [if_neg q2, if_neg i10, if_pos q3, B_FC_person_45, if_true, B_M_person_53, fm_bad1, bnd_s]
    exact AgX.mk 2 0 σ 0 _ rfl (Or.inr (Or.inr rfl)) rfl rfl (fun z => absurd z (by decide)) (JPeo.thr2 hW hP _ _)

theorem tb_swap {σ : CS} (h : WC σ) (t : Nat) (ht : t < 16) (i c : Nat) (hi : i < rws σ t) (hc : c < wid t) (v : Int32) : f_Table_swap t (nI i) (OfNat.ofNat c) v σ = some (cel σ t i c, pt σ t i c v) := by
  unfold f_Table_swap
  rw [tb_gl h t ht i c hi hc, bnd_s, tb_pl h t ht i c hi hc v, bnd_s]
theorem tb_raise {σ : CS} (h : WC σ) (t : Nat) (ht : t < 16) (i c : Nat) (hi : i < rws σ t) (hc : c < wid t) (v : Int32) : f_Table_raise t (nI i) (OfNat.ofNat c) v σ = some (cel σ t i c + v, pt σ t i c (cel σ t i c + v)) := by
  unfold f_Table_raise
  rw [tb_gl h t ht i c hi hc, bnd_s, tb_pl h t ht i c hi hc _, bnd_s, tb_gl (pt_W h t i c _) t ht i c hi hc, bnd_s, pt_same]
theorem tb_raise' {σ : CS} (h : WC σ) (t : Nat) (ht : t < 16) (i c : Nat) (hi : i < rws σ t) (hc : c < wid t) (v : Int32) {ci : Int32} (hci : ci = nI c) : f_Table_raise t (nI i) ci v σ = some (cel σ t i c + v, pt σ t i c (cel σ t i c + v)) := by
  subst hci
  exact tb_raise h t ht i c hi hc v
theorem pm_heir {σ τ : CS} (hW : WC σ) (hP : IPeo σ τ) (a0 a1 : Int32) : AgX (f_FC_heir a0 a1 σ) (f_M_heir a0 a1 τ) (fun c0 => c0 = 0 ∨ c0 = 3 ∨ c0 = 1) (fun c0 => (if c0 = 0 then (0 : Int32) else if c0 = 3 then 1 else 2)) (JPeo σ τ) := by
  have h40 := hW.hlim (t := 6) (by omega)
  rw [l6] at h40
  have e38 : (sF τ 0 0).1 38 = nI (rws σ 6) := hP.1
  unfold f_FC_heir f_M_heir B_FC_heir_37 B_M_heir_31
  by_cases q0 : ∃ j, j < rws σ 6 ∧ a0 = nI j
  · obtain ⟨j, hj, rfl⟩ := q0
    rw [tb_has1 hW 6 (by omega) hj, isPer_m hW e38 hj]
    simp only [bnd_s, if_neg i10]
    by_cases q1 : a1 = -1 ∨ ∃ h, h < rws σ 6 ∧ a1 = nI h
    · have eC : (if a1 = -1 then B_FC_heir_38 (nI j) a1 1 σ else bnd (f_Table_has 6 a1 σ) fun r27 σ27 => if r27 = 0 then B_FC_heir_38 (nI j) a1 0 σ27 else B_FC_heir_38 (nI j) a1 1 σ27) = B_FC_heir_38 (nI j) a1 1 σ := by
        rcases q1 with q1 | ⟨h, h1, rfl⟩
        · rw [if_pos q1]
        · rw [if_neg (nI_neg1 (by omega)), tb_has1 hW 6 (by omega) h1, bnd_s, if_neg i10]
      have eM : (if a1 = -1 then B_M_heir_32 (nI j) a1 0 (sF τ 0 0) else bnd (f_M_isPerson a1 (sF τ 0 0)) fun r21 σ21 => if r21 = 0 then B_M_heir_32 (nI j) a1 1 σ21 else B_M_heir_32 (nI j) a1 0 σ21) = B_M_heir_32 (nI j) a1 0 (sF τ 0 0) := by
        rcases q1 with q1 | ⟨h, h1, rfl⟩
        · rw [if_pos q1]
        · rw [if_neg (nI_neg1 (by omega)), isPer_m hW e38 h1, bnd_s, if_neg i10]
      rw [eC, eM]
      simp only [B_FC_heir_38, B_M_heir_32, if_neg i10, fm_bad0, bnd_s, if_true]
      by_cases q2 : nI j = a1
      · simp only [if_pos q2, B_FC_heir_51, B_M_heir_50, fm_bad1, bnd_s, if_neg i10, if_true]
        exact AgX.mk 1 0 σ 0 _ rfl (Or.inr (Or.inr rfl)) rfl rfl (fun z => absurd z (by decide)) (JPeo.thr2 hW hP _ _)
      · simp only [if_neg q2, B_FC_heir_51, B_M_heir_50, fm_bad0, bnd_s, if_neg i10, if_true, gix_n (show j < 40 by omega) (show 40 < 2147483648 by omega), tb_swap hW 6 (by omega) j 3 hj (by decide), rdn (show j < 2147483648 by omega), wrn (show j < 2147483648 by omega)]
        refine AgX.mk 0 _ _ _ _ rfl (Or.inl rfl) rfl rfl (fun _ => ?_) ⟨pt_W hW _ _ _ _, ⟨hP.1, fun i hi => ?_⟩, FrC.f3 _ _ _ _ (by decide), (FrM.f1 _ _ (by decide)).trans (FrM.f2 _ _ (by decide)), Nat.le_refl _⟩
        · exact ((hP.2 j hj).2.2.2.1).symm
        · have hi' : i < rws σ 6 := hi
          obtain ⟨b1, b2, b3, b4, b5, b6, b7, b8⟩ := hP.2 i hi'
          simp only [pt_rws, pt_cel _ 6 j 3 _ i _ (show 3 < wid 6 by decide) (show 0 < wid 6 by decide), pt_cel _ 6 j 3 _ i _ (show 3 < wid 6 by decide) (show 1 < wid 6 by decide), pt_cel _ 6 j 3 _ i _ (show 3 < wid 6 by decide) (show 2 < wid 6 by decide), pt_cel _ 6 j 3 _ i _ (show 3 < wid 6 by decide) (show 3 < wid 6 by decide), va_up, reduceIte, Nat.reduceEqDiff, upd, and_false, and_true]
          refine ⟨b1, b2, b3, ?_, b5, b6, b7, ?_⟩
          · by_cases z : i = j
            · rw [if_pos z, if_pos z]
            · rw [if_neg z, if_neg z]; exact b4
          · by_cases z : i = j
            · rw [if_pos z]; exact q1
            · rw [if_neg z]; exact b8
    · have n1 : ¬ a1 = -1 := fun z => q1 (Or.inl z)
      have n2 : ¬ ∃ h, h < rws σ 6 ∧ a1 = nI h := fun z => q1 (Or.inr z)
      simp only [if_neg n1, tb_has0 hW 6 (by omega) n2, isPer_m0 hW e38 n2, bnd_s, if_true, B_FC_heir_38, B_M_heir_32, fm_bad1, if_neg i10]
      exact AgX.mk 3 0 σ 0 _ rfl (Or.inr (Or.inl rfl)) rfl rfl (fun z => absurd z (by decide)) (JPeo.thr2 hW hP _ _)
  · simp only [tb_has0 hW 6 (by omega) q0, isPer_m0 hW e38 q0, bnd_s, if_true, B_FC_heir_38, B_M_heir_32, fm_bad1, if_neg i10]
    exact AgX.mk 3 0 σ 0 _ rfl (Or.inr (Or.inl rfl)) rfl rfl (fun z => absurd z (by decide)) (JPeo.thr2 hW hP _ _)
theorem pm_die {σ τ : CS} (hW : WC σ) (hP : IPeo σ τ) (hT : τ.1 1 = σ.1 62) (hT2 : Rg (σ.1 62) 100000) (a0 : Int32) : AgX (f_FC_die a0 σ) (f_M_die a0 τ) (fun c0 => c0 = 0 ∨ c0 = 3) (fun c0 => (if c0 = 0 then (0 : Int32) else 1)) (JPeo σ τ) := by
  have h40 := hW.hlim (t := 6) (by omega)
  rw [l6] at h40
  have e38 : (sF τ 0 0).1 38 = nI (rws σ 6) := hP.1
  unfold f_FC_die f_M_die
  by_cases q0 : ∃ j, j < rws σ 6 ∧ a0 = nI j
  · obtain ⟨j, hj, rfl⟩ := q0
    simp only [tb_has1 hW 6 (by omega) hj, isPer_m hW e38 hj, bnd_s, if_neg i10, B_M_die_19, fm_bad0, if_true, lives_c hW hj, dead_m hW (hP.thr 0) hj]
    by_cases q1 : cel σ 6 j 2 = -1
    · simp only [if_pos q1, if_true, if_neg i10, tb_pl hW 6 (by omega) j 2 hj (by decide), bnd_s, gix_n (show j < 40 by omega) (show 40 < 2147483648 by omega), rdn (show j < 2147483648 by omega), wrn (show j < 2147483648 by omega)]
      refine AgX.mk 0 _ _ _ _ rfl (Or.inl rfl) rfl rfl (fun _ => rfl) ⟨pt_W hW _ _ _ _, ⟨hP.1, fun i hi => ?_⟩, FrC.f3 _ _ _ _ (by decide), (FrM.f1 _ _ (by decide)).trans (FrM.f2 _ _ (by decide)), Nat.le_refl _⟩
      have hi' : i < rws σ 6 := hi
      obtain ⟨b1, b2, b3, b4, b5, b6, b7, b8⟩ := hP.2 i hi'
      simp only [pt_rws, pt_cel _ 6 j 2 _ i _ (show 2 < wid 6 by decide) (show 0 < wid 6 by decide), pt_cel _ 6 j 2 _ i _ (show 2 < wid 6 by decide) (show 1 < wid 6 by decide), pt_cel _ 6 j 2 _ i _ (show 2 < wid 6 by decide) (show 2 < wid 6 by decide), pt_cel _ 6 j 2 _ i _ (show 2 < wid 6 by decide) (show 3 < wid 6 by decide), va_up, reduceIte, Nat.reduceEqDiff, upd, and_false, and_true, hT]
      refine ⟨b1, b2, ?_, b4, b5, b6, ?_, b8⟩
      · by_cases z : i = j
        · rw [if_pos z, if_pos z]
        · rw [if_neg z, if_neg z]; exact b3
      · by_cases z : i = j
        · rw [if_pos z]; exact Or.inr hT2
        · rw [if_neg z]; exact b7
    · simp only [if_neg q1, if_neg i10, if_true]
      exact AgX.mk 0 _ σ _ _ rfl (Or.inl rfl) rfl rfl (fun _ => rfl) (JPeo.thr hW hP _)
  · simp only [tb_has0 hW 6 (by omega) q0, isPer_m0 hW e38 q0, bnd_s, if_true, B_M_die_19, fm_bad1, if_neg i10]
    exact AgX.mk 3 0 σ 0 _ rfl (Or.inr rfl) rfl rfl (fun z => absurd z (by decide)) (JPeo.thr2 hW hP _ _)
theorem pm_told {σ τ : CS} (hW : WC σ) (hP : IPeo σ τ) (a0 a1 : Int32) : AgX (f_FC_told a0 a1 σ) (f_M_told a0 a1 τ) (fun c0 => c0 = 0 ∨ c0 = 3 ∨ c0 = 1) (fun c0 => (if c0 = 0 then (0 : Int32) else if c0 = 3 then 1 else 2)) (JPeo σ τ) := by
  have h40 := hW.hlim (t := 6) (by omega)
  rw [l6] at h40
  have e38 : (sF τ 0 0).1 38 = nI (rws σ 6) := hP.1
  unfold f_FC_told f_M_told
  by_cases q0 : ∃ j, j < rws σ 6 ∧ a0 = nI j
  · obtain ⟨j, hj, rfl⟩ := q0
    simp only [tb_has1 hW 6 (by omega) hj, isPer_m hW e38 hj, bnd_s, if_neg i10, B_M_told_19, fm_bad0, if_true, fc_within, fm_in]
    by_cases q1 : a1 < 0 ∨ 3 < a1
    · simp only [if_pos q1, if_true, B_M_told_41, fm_bad1, bnd_s, if_neg i10]
      exact AgX.mk 1 0 σ 0 _ rfl (Or.inr (Or.inr rfl)) rfl rfl (fun z => absurd z (by decide)) (JPeo.thr2 hW hP _ _)
    · obtain ⟨b1, b2, b3, b4, -⟩ := hP.2 j hj
      simp only [if_neg q1, if_neg i10, B_M_told_41, fm_bad0, bnd_s, if_true, gix_n (show j < 40 by omega) (show 40 < 2147483648 by omega), rdn (show j < 2147483648 by omega), wrn (show j < 2147483648 by omega)]
      obtain ⟨a, ha, rfl⟩ := Rg.of q1 (n := 3) rfl (by omega) (by decide)
      obtain rfl | rfl | rfl | rfl : a = 0 ∨ a = 1 ∨ a = 2 ∨ a = 3 := by omega
      · rw [if_neg (by decide), if_pos (by decide), tb_get hW 6 (by omega) j 0 hj (by decide) rfl]
        exact AgX.mk 0 _ σ _ _ rfl (Or.inl rfl) rfl rfl (fun _ => b1.symm) (JPeo.thr hW hP _)
      · rw [if_neg (by decide), if_neg (by decide), if_pos (by decide), tb_get hW 6 (by omega) j 1 hj (by decide) rfl]
        exact AgX.mk 0 _ σ _ _ rfl (Or.inl rfl) rfl rfl (fun _ => b2.symm) (JPeo.thr hW hP _)
      · rw [if_neg (by decide), if_neg (by decide), if_neg (by decide), if_pos (by decide), tb_get hW 6 (by omega) j 2 hj (by decide) rfl]
        exact AgX.mk 0 _ σ _ _ rfl (Or.inl rfl) rfl rfl (fun _ => b3.symm) (JPeo.thr hW hP _)
      · obtain ⟨r, h1, h2, -⟩ := heir_ag hW (hP.thr 0) hj
        rw [if_pos (by decide), if_neg (by decide), if_neg (by decide), if_neg (by decide), h1, h2]
        exact AgX.mk 0 _ σ _ _ rfl (Or.inl rfl) rfl rfl (fun _ => rfl) (JPeo.thr hW hP _)
  · simp only [tb_has0 hW 6 (by omega) q0, isPer_m0 hW e38 q0, bnd_s, if_true, B_M_told_19, fm_bad1, if_neg i10]
    exact AgX.mk 3 0 σ 0 _ rfl (Or.inr (Or.inl rfl)) rfl rfl (fun z => absurd z (by decide)) (JPeo.thr2 hW hP _ _)
